section
-- ===== PART A: goes FIRST, ahead of the names: the tables' words, and 'selects' of the private methods out of them =====
/-- a private method of a class that the tables say can be made, by its rows of tables_1 -/
def lw_okq (q : MethodName × Nat) : Prop := (q.1.cls ≠ "java/lang/invoke/MethodHandle" ∧ q.1.cls ≠ "java/lang/invoke/VarHandle") ∧ Cond.instantiable q.1.cls q.2 ∈ tables_1 ∧ Cond.privateMethod q.1 ∈ tables_1 ∧ Cond.instanceMethod q.1 ∈ tables_1
theorem lw_p0 : lw_okq (⟨"MirrorShares$Told", "endOfItem", "(I)I"⟩, 2) := ⟨⟨by decide +kernel, by decide +kernel⟩, List.mem_of_getElem? (i := 29) (by decide +kernel), List.mem_of_getElem? (i := 183) (by decide +kernel), List.mem_of_getElem? (i := 184) (by decide +kernel)⟩
theorem lw_p1 : lw_okq (⟨"MirrorShares$Told", "letterAt", "(I)I"⟩, 2) := ⟨⟨by decide +kernel, by decide +kernel⟩, List.mem_of_getElem? (i := 29) (by decide +kernel), List.mem_of_getElem? (i := 187) (by decide +kernel), List.mem_of_getElem? (i := 188) (by decide +kernel)⟩
theorem lw_p2 : lw_okq (⟨"MirrorShares$Told", "readRow", "(IILMirrorShares$Room;)Z"⟩, 2) := ⟨⟨by decide +kernel, by decide +kernel⟩, List.mem_of_getElem? (i := 29) (by decide +kernel), List.mem_of_getElem? (i := 191) (by decide +kernel), List.mem_of_getElem? (i := 192) (by decide +kernel)⟩
theorem lw_p3 : lw_okq (⟨"MirrorShares", "tryCell", "(II)V"⟩, 6) := ⟨⟨by decide +kernel, by decide +kernel⟩, List.mem_of_getElem? (i := 21) (by decide +kernel), List.mem_of_getElem? (i := 327) (by decide +kernel), List.mem_of_getElem? (i := 328) (by decide +kernel)⟩
theorem lw_p4 : lw_okq (⟨"MirrorShares", "change", "(III)V"⟩, 6) := ⟨⟨by decide +kernel, by decide +kernel⟩, List.mem_of_getElem? (i := 21) (by decide +kernel), List.mem_of_getElem? (i := 333) (by decide +kernel), List.mem_of_getElem? (i := 334) (by decide +kernel)⟩
theorem lw_p5 : lw_okq (⟨"MirrorShares$Past", "remember", "(I)V"⟩, 2) := ⟨⟨by decide +kernel, by decide +kernel⟩, List.mem_of_getElem? (i := 67) (by decide +kernel), List.mem_of_getElem? (i := 341) (by decide +kernel), List.mem_of_getElem? (i := 342) (by decide +kernel)⟩
theorem lw_p6 : lw_okq (⟨"MirrorShares", "turnRoom", "()V"⟩, 6) := ⟨⟨by decide +kernel, by decide +kernel⟩, List.mem_of_getElem? (i := 21) (by decide +kernel), List.mem_of_getElem? (i := 362) (by decide +kernel), List.mem_of_getElem? (i := 363) (by decide +kernel)⟩
theorem lw_p7 : lw_okq (⟨"MirrorShares", "hasPorts", "(II)Z"⟩, 6) := ⟨⟨by decide +kernel, by decide +kernel⟩, List.mem_of_getElem? (i := 21) (by decide +kernel), List.mem_of_getElem? (i := 424) (by decide +kernel), List.mem_of_getElem? (i := 425) (by decide +kernel)⟩
theorem lw_p8 : lw_okq (⟨"MirrorShares$Beam", "findSplits", "(LMirrorShares$Room;I)V"⟩, 7) := ⟨⟨by decide +kernel, by decide +kernel⟩, List.mem_of_getElem? (i := 104) (by decide +kernel), List.mem_of_getElem? (i := 455) (by decide +kernel), List.mem_of_getElem? (i := 456) (by decide +kernel)⟩
theorem lw_p9 : lw_okq (⟨"MirrorShares$Beam", "noteSplit", "(I)V"⟩, 7) := ⟨⟨by decide +kernel, by decide +kernel⟩, List.mem_of_getElem? (i := 104) (by decide +kernel), List.mem_of_getElem? (i := 462) (by decide +kernel), List.mem_of_getElem? (i := 463) (by decide +kernel)⟩
theorem lw_p10 : lw_okq (⟨"MirrorShares$Beam", "setRows", "()V"⟩, 7) := ⟨⟨by decide +kernel, by decide +kernel⟩, List.mem_of_getElem? (i := 104) (by decide +kernel), List.mem_of_getElem? (i := 469) (by decide +kernel), List.mem_of_getElem? (i := 470) (by decide +kernel)⟩
theorem lw_p11 : lw_okq (⟨"MirrorShares$Beam", "solveRows", "()V"⟩, 7) := ⟨⟨by decide +kernel, by decide +kernel⟩, List.mem_of_getElem? (i := 104) (by decide +kernel), List.mem_of_getElem? (i := 477) (by decide +kernel), List.mem_of_getElem? (i := 478) (by decide +kernel)⟩
theorem lw_p12 : lw_okq (⟨"MirrorShares$Beam", "clearColumn", "([J[JIJ)V"⟩, 7) := ⟨⟨by decide +kernel, by decide +kernel⟩, List.mem_of_getElem? (i := 104) (by decide +kernel), List.mem_of_getElem? (i := 481) (by decide +kernel), List.mem_of_getElem? (i := 482) (by decide +kernel)⟩
theorem lw_p13 : lw_okq (⟨"MirrorShares$Beam", "addParts", "(I)V"⟩, 7) := ⟨⟨by decide +kernel, by decide +kernel⟩, List.mem_of_getElem? (i := 104) (by decide +kernel), List.mem_of_getElem? (i := 485) (by decide +kernel), List.mem_of_getElem? (i := 486) (by decide +kernel)⟩
theorem lw_p14 : lw_okq (⟨"MirrorShares$Beam", "addPart", "(IJ)V"⟩, 7) := ⟨⟨by decide +kernel, by decide +kernel⟩, List.mem_of_getElem? (i := 104) (by decide +kernel), List.mem_of_getElem? (i := 489) (by decide +kernel), List.mem_of_getElem? (i := 490) (by decide +kernel)⟩
theorem lw_p15 : lw_okq (⟨"MirrorShares$Walk", "enter", "(III)V"⟩, 5) := ⟨⟨by decide +kernel, by decide +kernel⟩, List.mem_of_getElem? (i := 81) (by decide +kernel), List.mem_of_getElem? (i := 536) (by decide +kernel), List.mem_of_getElem? (i := 537) (by decide +kernel)⟩
def lw_privs_1 : List (MethodName × Nat) := [(⟨"MirrorShares$Told", "endOfItem", "(I)I"⟩, 2), (⟨"MirrorShares$Told", "letterAt", "(I)I"⟩, 2), (⟨"MirrorShares$Told", "readRow", "(IILMirrorShares$Room;)Z"⟩, 2), (⟨"MirrorShares", "tryCell", "(II)V"⟩, 6), (⟨"MirrorShares", "change", "(III)V"⟩, 6), (⟨"MirrorShares$Past", "remember", "(I)V"⟩, 2), (⟨"MirrorShares", "turnRoom", "()V"⟩, 6), (⟨"MirrorShares", "hasPorts", "(II)Z"⟩, 6), (⟨"MirrorShares$Beam", "findSplits", "(LMirrorShares$Room;I)V"⟩, 7), (⟨"MirrorShares$Beam", "noteSplit", "(I)V"⟩, 7), (⟨"MirrorShares$Beam", "setRows", "()V"⟩, 7), (⟨"MirrorShares$Beam", "solveRows", "()V"⟩, 7), (⟨"MirrorShares$Beam", "clearColumn", "([J[JIJ)V"⟩, 7), (⟨"MirrorShares$Beam", "addParts", "(I)V"⟩, 7), (⟨"MirrorShares$Beam", "addPart", "(IJ)V"⟩, 7), (⟨"MirrorShares$Walk", "enter", "(III)V"⟩, 5)]
theorem lw_r1 : ∀ q ∈ lw_privs_1, lw_okq q := List.forall_mem_cons.mpr ⟨lw_p0, List.forall_mem_cons.mpr ⟨lw_p1, List.forall_mem_cons.mpr ⟨lw_p2, List.forall_mem_cons.mpr ⟨lw_p3, List.forall_mem_cons.mpr ⟨lw_p4, List.forall_mem_cons.mpr ⟨lw_p5, List.forall_mem_cons.mpr ⟨lw_p6, List.forall_mem_cons.mpr ⟨lw_p7, List.forall_mem_cons.mpr ⟨lw_p8, List.forall_mem_cons.mpr ⟨lw_p9, List.forall_mem_cons.mpr ⟨lw_p10, List.forall_mem_cons.mpr ⟨lw_p11, List.forall_mem_cons.mpr ⟨lw_p12, List.forall_mem_cons.mpr ⟨lw_p13, List.forall_mem_cons.mpr ⟨lw_p14, List.forall_mem_cons.mpr ⟨lw_p15, fun _ h => absurd h List.not_mem_nil⟩⟩⟩⟩⟩⟩⟩⟩⟩⟩⟩⟩⟩⟩⟩⟩
theorem lw_p16 : lw_okq (⟨"MirrorShares$Walk", "spread", "(LMirrorShares$Room;II)V"⟩, 5) := ⟨⟨by decide +kernel, by decide +kernel⟩, List.mem_of_getElem? (i := 81) (by decide +kernel), List.mem_of_getElem? (i := 540) (by decide +kernel), List.mem_of_getElem? (i := 541) (by decide +kernel)⟩
theorem lw_p17 : lw_okq (⟨"MirrorShares$Walk", "leave", "(LMirrorShares$Room;III)V"⟩, 5) := ⟨⟨by decide +kernel, by decide +kernel⟩, List.mem_of_getElem? (i := 81) (by decide +kernel), List.mem_of_getElem? (i := 546) (by decide +kernel), List.mem_of_getElem? (i := 547) (by decide +kernel)⟩
theorem lw_p18 : lw_okq (⟨"MirrorShares$Walk", "reach", "(II)V"⟩, 5) := ⟨⟨by decide +kernel, by decide +kernel⟩, List.mem_of_getElem? (i := 81) (by decide +kernel), List.mem_of_getElem? (i := 551) (by decide +kernel), List.mem_of_getElem? (i := 552) (by decide +kernel)⟩
theorem lw_p19 : lw_okq (⟨"MirrorShares", "openOnly", "(I)V"⟩, 6) := ⟨⟨by decide +kernel, by decide +kernel⟩, List.mem_of_getElem? (i := 21) (by decide +kernel), List.mem_of_getElem? (i := 580) (by decide +kernel), List.mem_of_getElem? (i := 581) (by decide +kernel)⟩
theorem lw_p20 : lw_okq (⟨"MirrorSharesModel", "reads", "()I"⟩, 19) := ⟨⟨by decide +kernel, by decide +kernel⟩, List.mem_of_getElem? (i := 599) (by decide +kernel), List.mem_of_getElem? (i := 679) (by decide +kernel), List.mem_of_getElem? (i := 680) (by decide +kernel)⟩
theorem lw_p21 : lw_okq (⟨"MirrorSharesModel", "takesRow", "()Z"⟩, 19) := ⟨⟨by decide +kernel, by decide +kernel⟩, List.mem_of_getElem? (i := 599) (by decide +kernel), List.mem_of_getElem? (i := 683) (by decide +kernel), List.mem_of_getElem? (i := 684) (by decide +kernel)⟩
theorem lw_p22 : lw_okq (⟨"MirrorSharesModel", "isCell", "(I)Z"⟩, 19) := ⟨⟨by decide +kernel, by decide +kernel⟩, List.mem_of_getElem? (i := 599) (by decide +kernel), List.mem_of_getElem? (i := 720) (by decide +kernel), List.mem_of_getElem? (i := 721) (by decide +kernel)⟩
theorem lw_p23 : lw_okq (⟨"MirrorSharesModel", "keeps", "()V"⟩, 19) := ⟨⟨by decide +kernel, by decide +kernel⟩, List.mem_of_getElem? (i := 599) (by decide +kernel), List.mem_of_getElem? (i := 724) (by decide +kernel), List.mem_of_getElem? (i := 725) (by decide +kernel)⟩
theorem lw_p24 : lw_okq (⟨"MirrorSharesModel", "isTheDoor", "(I)Z"⟩, 19) := ⟨⟨by decide +kernel, by decide +kernel⟩, List.mem_of_getElem? (i := 599) (by decide +kernel), List.mem_of_getElem? (i := 732) (by decide +kernel), List.mem_of_getElem? (i := 733) (by decide +kernel)⟩
theorem lw_p25 : lw_okq (⟨"MirrorSharesModel", "isPort", "(I)Z"⟩, 19) := ⟨⟨by decide +kernel, by decide +kernel⟩, List.mem_of_getElem? (i := 599) (by decide +kernel), List.mem_of_getElem? (i := 758) (by decide +kernel), List.mem_of_getElem? (i := 759) (by decide +kernel)⟩
theorem lw_p26 : lw_okq (⟨"MirrorSharesModel", "shares", "([III)V"⟩, 19) := ⟨⟨by decide +kernel, by decide +kernel⟩, List.mem_of_getElem? (i := 599) (by decide +kernel), List.mem_of_getElem? (i := 772) (by decide +kernel), List.mem_of_getElem? (i := 773) (by decide +kernel)⟩
theorem lw_p27 : lw_okq (⟨"MirrorSharesModel", "gathers", "([II)V"⟩, 19) := ⟨⟨by decide +kernel, by decide +kernel⟩, List.mem_of_getElem? (i := 599) (by decide +kernel), List.mem_of_getElem? (i := 794) (by decide +kernel), List.mem_of_getElem? (i := 795) (by decide +kernel)⟩
theorem lw_p28 : lw_okq (⟨"MirrorSharesModel", "findsMay", "(I)V"⟩, 19) := ⟨⟨by decide +kernel, by decide +kernel⟩, List.mem_of_getElem? (i := 599) (by decide +kernel), List.mem_of_getElem? (i := 798) (by decide +kernel), List.mem_of_getElem? (i := 799) (by decide +kernel)⟩
theorem lw_p29 : lw_okq (⟨"MirrorSharesModel", "laysRows", "(I)I"⟩, 19) := ⟨⟨by decide +kernel, by decide +kernel⟩, List.mem_of_getElem? (i := 599) (by decide +kernel), List.mem_of_getElem? (i := 802) (by decide +kernel), List.mem_of_getElem? (i := 803) (by decide +kernel)⟩
theorem lw_p30 : lw_okq (⟨"MirrorSharesModel", "solves", "(I)V"⟩, 19) := ⟨⟨by decide +kernel, by decide +kernel⟩, List.mem_of_getElem? (i := 599) (by decide +kernel), List.mem_of_getElem? (i := 807) (by decide +kernel), List.mem_of_getElem? (i := 808) (by decide +kernel)⟩
theorem lw_p31 : lw_okq (⟨"MirrorSharesModel", "lowers", "()V"⟩, 19) := ⟨⟨by decide +kernel, by decide +kernel⟩, List.mem_of_getElem? (i := 599) (by decide +kernel), List.mem_of_getElem? (i := 811) (by decide +kernel), List.mem_of_getElem? (i := 812) (by decide +kernel)⟩
def lw_privs_2 : List (MethodName × Nat) := [(⟨"MirrorShares$Walk", "spread", "(LMirrorShares$Room;II)V"⟩, 5), (⟨"MirrorShares$Walk", "leave", "(LMirrorShares$Room;III)V"⟩, 5), (⟨"MirrorShares$Walk", "reach", "(II)V"⟩, 5), (⟨"MirrorShares", "openOnly", "(I)V"⟩, 6), (⟨"MirrorSharesModel", "reads", "()I"⟩, 19), (⟨"MirrorSharesModel", "takesRow", "()Z"⟩, 19), (⟨"MirrorSharesModel", "isCell", "(I)Z"⟩, 19), (⟨"MirrorSharesModel", "keeps", "()V"⟩, 19), (⟨"MirrorSharesModel", "isTheDoor", "(I)Z"⟩, 19), (⟨"MirrorSharesModel", "isPort", "(I)Z"⟩, 19), (⟨"MirrorSharesModel", "shares", "([III)V"⟩, 19), (⟨"MirrorSharesModel", "gathers", "([II)V"⟩, 19), (⟨"MirrorSharesModel", "findsMay", "(I)V"⟩, 19), (⟨"MirrorSharesModel", "laysRows", "(I)I"⟩, 19), (⟨"MirrorSharesModel", "solves", "(I)V"⟩, 19), (⟨"MirrorSharesModel", "lowers", "()V"⟩, 19)]
theorem lw_r2 : ∀ q ∈ lw_privs_2, lw_okq q := List.forall_mem_cons.mpr ⟨lw_p16, List.forall_mem_cons.mpr ⟨lw_p17, List.forall_mem_cons.mpr ⟨lw_p18, List.forall_mem_cons.mpr ⟨lw_p19, List.forall_mem_cons.mpr ⟨lw_p20, List.forall_mem_cons.mpr ⟨lw_p21, List.forall_mem_cons.mpr ⟨lw_p22, List.forall_mem_cons.mpr ⟨lw_p23, List.forall_mem_cons.mpr ⟨lw_p24, List.forall_mem_cons.mpr ⟨lw_p25, List.forall_mem_cons.mpr ⟨lw_p26, List.forall_mem_cons.mpr ⟨lw_p27, List.forall_mem_cons.mpr ⟨lw_p28, List.forall_mem_cons.mpr ⟨lw_p29, List.forall_mem_cons.mpr ⟨lw_p30, List.forall_mem_cons.mpr ⟨lw_p31, fun _ h => absurd h List.not_mem_nil⟩⟩⟩⟩⟩⟩⟩⟩⟩⟩⟩⟩⟩⟩⟩⟩
theorem lw_p32 : lw_okq (⟨"MirrorSharesModel", "lostOf", "(II)J"⟩, 19) := ⟨⟨by decide +kernel, by decide +kernel⟩, List.mem_of_getElem? (i := 599) (by decide +kernel), List.mem_of_getElem? (i := 819) (by decide +kernel), List.mem_of_getElem? (i := 820) (by decide +kernel)⟩
theorem lw_p33 : lw_okq (⟨"MirrorSharesModel", "spreads", "(I)V"⟩, 19) := ⟨⟨by decide +kernel, by decide +kernel⟩, List.mem_of_getElem? (i := 599) (by decide +kernel), List.mem_of_getElem? (i := 841) (by decide +kernel), List.mem_of_getElem? (i := 842) (by decide +kernel)⟩
def lw_privs_3 : List (MethodName × Nat) := [(⟨"MirrorSharesModel", "lostOf", "(II)J"⟩, 19), (⟨"MirrorSharesModel", "spreads", "(I)V"⟩, 19)]
theorem lw_r3 : ∀ q ∈ lw_privs_3, lw_okq q := List.forall_mem_cons.mpr ⟨lw_p32, List.forall_mem_cons.mpr ⟨lw_p33, fun _ h => absurd h List.not_mem_nil⟩⟩
def lw_privs : List (MethodName × Nat) := lw_privs_1 ++ (lw_privs_2 ++ (lw_privs_3))
def lw_tbl : List Cond := k2_sels lw_privs ++ tables_1
theorem lw_privs_ok : ∀ q ∈ lw_privs, lw_okq q := by
  show ∀ q ∈ lw_privs_1 ++ (lw_privs_2 ++ (lw_privs_3)), lw_okq q
  exact List.forall_mem_append.mpr ⟨lw_r1, List.forall_mem_append.mpr ⟨lw_r2, lw_r3⟩⟩
/-- the streams that the claim lets the run draw from -/
abbrev lw_cs : List Choice := [Jvm.Choice.named "NaN.bits"]
theorem lw_bits : nanBits ∈ lw_cs := by first | decide | exact List.mem_cons_self | simp [lw_cs, nanBits]
end
section
/-! ===== BEGIN words of one list among another's, by their places ===== -/
theorem goodIn_r {big : List Cond} (ws : List Cond) (ps : List Nat) (hp : ws = ps.filterMap (fun i => big[i]?)) (h : ws.all goodWord = true) : GoodIn big ws := by
  intro w hw
  have h1 := List.all_eq_true.mp h w hw
  rw [hp] at hw
  obtain ⟨i, -, hi⟩ := List.mem_filterMap.mp hw
  have hm : w ∈ big := by first | exact List.mem_of_getElem? hi | exact List.getElem?_mem hi
  exact ⟨hm, good_of_word h1⟩
theorem goodIn_app {big a b : List Cond} (ha : GoodIn big a) (hb : GoodIn big b) : GoodIn big (a ++ b) := fun w h => (List.mem_append.mp h).elim (ha w) (hb w)
theorem goodIn_ca {big a b : List Cond} {c : Cond} (ha : GoodIn big (c :: a)) (hb : GoodIn big b) : GoodIn big (c :: (a ++ b)) := fun w h => (List.mem_cons.mp h).elim (fun e => ha w (List.mem_cons.mpr (Or.inl e))) (fun h => (List.mem_append.mp h).elim (fun h => ha w (List.mem_cons.mpr (Or.inr h))) (hb w))
theorem goodIn_sub {big ws : List Cond} (hm : ∀ w ∈ ws, w ∈ big) (h : ws.all goodWord = true) : GoodIn big ws := fun w hw => ⟨hm w hw, good_of_word (List.all_eq_true.mp h w hw)⟩
/-! ===== END ===== -/

/-! ===== BEGIN new T[n][m]: the outer array a place, the inner ones among the pooled ===== -/
/-- f, but v at every address of l -/
def vr_up {α : Type} (f : Nat → α) (l : List Nat) (v : α) : Nat → α := fun a => if a ∈ l then v else f a
theorem vr_up_in {α : Type} {f : Nat → α} {l : List Nat} {v : α} {a : Nat} (h : a ∈ l) : vr_up f l v a = v := if_pos h
theorem vr_up_ne {α : Type} {f : Nat → α} {l : List Nat} {v : α} {a : Nat} (h : a ∉ l) : vr_up f l v a = f a := if_neg h
theorem vr_rows {L l : List Nat} {f : Nat → va_E} {e : va_E} (h : ∀ a, a ∈ l → a ∉ L) : va_pl L f ++ l.map (fun a => (a, e)) = va_pl (L ++ l) (vr_up f l e) := by
  unfold va_pl
  rw [List.map_append]
  congr 1
  · apply List.map_congr_left
    intro a ha
    rw [vr_up_ne (fun q => h a q ha)]
  · apply List.map_congr_left
    intro a ha
    rw [vr_up_in ha]
theorem vr_lay {X rows : va_W} {x : Nat × va_E} {pl : va_W} {D : va_G} {cl : List vw_C} {H : Heap} (hP : va_P D cl (((X ++ pl) ++ [x]) ++ rows) H) : va_P D cl ((X ++ [x]) ++ (pl ++ rows)) H := by
  rw [List.append_assoc (X ++ pl)] at hP
  have h := va_P.swap hP
  rw [← List.append_assoc X] at h
  have h2 := va_P.swap h
  rw [List.append_assoc (X ++ [x])] at h2
  exact h2
theorem vr_layD {X rows : va_W} {x : Nat × va_E} {pl : va_W} {A : Nat → Prop} (hD : va_D A (((X ++ pl) ++ [x]) ++ rows)) : va_D A ((X ++ [x]) ++ (pl ++ rows)) := by
  rw [List.append_assoc (X ++ pl)] at hD
  have h := va_D.swap hD
  rw [← List.append_assoc X] at h
  have h2 := va_D.swap h
  rw [List.append_assoc (X ++ [x])] at h2
  exact h2
theorem vr_outer (c : ClassId) (N h0 : Nat) : ∀ i : Nat, Jvm.Free.Multi.outerC c N h0 i = arrV c N (fun j => va_rf (if j < i then some (h0 + 1 + j) else none))
  | 0 => by
    show ({ cls := c, slots := Array.replicate N .null, vm := .none } : Cell) = _
    rw [arrV_new]
    refine congrArg (arrV c N) (funext fun j => ?_)
    simp [va_rf]
  | i + 1 => by
    show (Jvm.Free.Multi.outerC c N h0 i).setSlot i (.ref (h0 + 1 + i)) = _
    rw [vr_outer c N h0 i, arrV_store]
    refine congrArg (arrV c N) (funext fun j => ?_)
    by_cases e : j = i
    · subst e
      simp [updV, va_rf]
    · by_cases h : j < i
      · simp [updV, e, h, Nat.lt_succ_of_lt h]
      · simp [updV, e, h, show ¬ j < i + 1 by omega]
/-! ===== END ===== -/

/-! ===== BEGIN printed: names, fields, word lists, decode rows ===== -/
def RX0 : String := "MirrorShares$Beam"
def TX0 : u_T := fun k => match k with
  | 0 => ("MirrorShares$Beam", "splitPlace", "[I", true)
  | 1 => ("MirrorShares$Beam", "splitNumber", "[I", true)
  | 2 => ("MirrorShares$Beam", "rayEnd", "[I", true)
  | 3 => ("MirrorShares$Beam", "rows", "[[J", true)
  | 4 => ("MirrorShares$Beam", "parts", "[J", true)
  | 5 => ("MirrorShares$Beam", "splits", "I", false)
  | _ => ("MirrorShares$Beam", "whole", "J", false)
def tyX0 : Nat → FieldType := fun k => match k with
  | 0 => .array .int
  | 1 => .array .int
  | 2 => .array .int
  | 3 => .array (.array .long)
  | 4 => .array .long
  | 5 => .int
  | _ => .long
abbrev wsX00 : List Cond := u_ws RX0 TX0 7
theorem nmX0 : ∀ a, a < 7 → ∀ b, b < 7 → a ≠ b → (TX0 a).2.1 ≠ (TX0 b).2.1 := by decide +kernel
theorem tyX0_ok : ∀ k, k < 7 → parseFieldDescriptor (TX0 k).2.2.1 = some (tyX0 k) := by decide +kernel
abbrev cX0_init : ByteArray := prog_2_method_1_code
def yX0_init : MethodName := ⟨RX0, "<init>", "()V"⟩
abbrev cX0_outAt : ByteArray := prog_2_method_2_code
def yX0_outAt : MethodName := ⟨RX0, "outAt", "(I)J"⟩
abbrev cX0_swallowed : ByteArray := prog_2_method_3_code
def yX0_swallowed : MethodName := ⟨RX0, "swallowed", "()J"⟩
abbrev cX0_caught : ByteArray := prog_2_method_4_code
def yX0_caught : MethodName := ⟨RX0, "caught", "()J"⟩
abbrev cX0_shine : ByteArray := prog_2_method_5_code
def yX0_shine : MethodName := ⟨RX0, "shine", "(LMirrorShares$Room;I)V"⟩
abbrev cX0_findSplits : ByteArray := prog_2_method_6_code
def yX0_findSplits : MethodName := ⟨RX0, "findSplits", "(LMirrorShares$Room;I)V"⟩
abbrev cX0_noteSplit : ByteArray := prog_2_method_7_code
def yX0_noteSplit : MethodName := ⟨RX0, "noteSplit", "(I)V"⟩
abbrev cX0_endBeyond : ByteArray := prog_2_method_8_code
def yX0_endBeyond : MethodName := ⟨RX0, "endBeyond", "(LMirrorShares$Room;II)I"⟩
abbrev cX0_endOf : ByteArray := prog_2_method_9_code
def yX0_endOf : MethodName := ⟨RX0, "endOf", "(LMirrorShares$Room;II)I"⟩
abbrev cX0_setRows : ByteArray := prog_2_method_10_code
def yX0_setRows : MethodName := ⟨RX0, "setRows", "()V"⟩
abbrev cX0_solveRows : ByteArray := prog_2_method_11_code
def yX0_solveRows : MethodName := ⟨RX0, "solveRows", "()V"⟩
abbrev cX0_clearColumn : ByteArray := prog_2_method_12_code
def yX0_clearColumn : MethodName := ⟨RX0, "clearColumn", "([J[JIJ)V"⟩
abbrev cX0_addParts : ByteArray := prog_2_method_13_code
def yX0_addParts : MethodName := ⟨RX0, "addParts", "(I)V"⟩
abbrev cX0_addPart : ByteArray := prog_2_method_14_code
def yX0_addPart : MethodName := ⟨RX0, "addPart", "(IJ)V"⟩
def RX1 : String := "MirrorShares$Past"
def TX1 : u_T := fun k => match k with
  | 0 => ("MirrorShares$Past", "changes", "[I", true)
  | _ => ("MirrorShares$Past", "size", "I", false)
def tyX1 : Nat → FieldType := fun k => match k with
  | 0 => .array .int
  | _ => .int
abbrev wsX10 : List Cond := u_ws RX1 TX1 2
theorem nmX1 : ∀ a, a < 2 → ∀ b, b < 2 → a ≠ b → (TX1 a).2.1 ≠ (TX1 b).2.1 := by decide +kernel
theorem tyX1_ok : ∀ k, k < 2 → parseFieldDescriptor (TX1 k).2.2.1 = some (tyX1 k) := by decide +kernel
abbrev cX1_init : ByteArray := prog_3_method_1_code
def yX1_init : MethodName := ⟨RX1, "<init>", "()V"⟩
abbrev cX1_cellOf : ByteArray := prog_3_method_2_code
def yX1_cellOf : MethodName := ⟨RX1, "cellOf", "(I)I"⟩
abbrev cX1_kindOf : ByteArray := prog_3_method_3_code
def yX1_kindOf : MethodName := ⟨RX1, "kindOf", "(I)I"⟩
abbrev cX1_rememberKind : ByteArray := prog_3_method_4_code
def yX1_rememberKind : MethodName := ⟨RX1, "rememberKind", "(II)V"⟩
abbrev cX1_rememberTurn : ByteArray := prog_3_method_5_code
def yX1_rememberTurn : MethodName := ⟨RX1, "rememberTurn", "()V"⟩
abbrev cX1_remember : ByteArray := prog_3_method_6_code
def yX1_remember : MethodName := ⟨RX1, "remember", "(I)V"⟩
abbrev cX1_takeLatest : ByteArray := prog_3_method_7_code
def yX1_takeLatest : MethodName := ⟨RX1, "takeLatest", "()I"⟩
abbrev cX1_forget : ByteArray := prog_3_method_8_code
def yX1_forget : MethodName := ⟨RX1, "forget", "()V"⟩
def RX2 : String := "MirrorShares$Room"
def TX2 : u_T := fun k => match k with
  | 0 => ("MirrorShares$Room", "kinds", "[I", true)
  | 1 => ("MirrorShares$Room", "columns", "I", false)
  | _ => ("MirrorShares$Room", "rows", "I", false)
def tyX2 : Nat → FieldType := fun k => match k with
  | 0 => .array .int
  | 1 => .int
  | _ => .int
abbrev wsX20 : List Cond := u_ws RX2 TX2 3
theorem nmX2 : ∀ a, a < 3 → ∀ b, b < 3 → a ≠ b → (TX2 a).2.1 ≠ (TX2 b).2.1 := by decide +kernel
theorem tyX2_ok : ∀ k, k < 3 → parseFieldDescriptor (TX2 k).2.2.1 = some (tyX2 k) := by decide +kernel
abbrev cX2_init : ByteArray := prog_4_method_1_code
def yX2_init : MethodName := ⟨RX2, "<init>", "()V"⟩
abbrev cX2_cells : ByteArray := prog_4_method_2_code
def yX2_cells : MethodName := ⟨RX2, "cells", "()I"⟩
abbrev cX2_ports : ByteArray := prog_4_method_3_code
def yX2_ports : MethodName := ⟨RX2, "ports", "()I"⟩
abbrev cX2_hasPort : ByteArray := prog_4_method_4_code
def yX2_hasPort : MethodName := ⟨RX2, "hasPort", "(I)Z"⟩
abbrev cX2_kindAt : ByteArray := prog_4_method_5_code
def yX2_kindAt : MethodName := ⟨RX2, "kindAt", "(I)I"⟩
abbrev cX2_tell : ByteArray := prog_4_method_6_code
def yX2_tell : MethodName := ⟨RX2, "tell", "(II)V"⟩
abbrev cX2_countKinds : ByteArray := prog_4_method_7_code
def yX2_countKinds : MethodName := ⟨RX2, "countKinds", "(II)I"⟩
abbrev cX2_isOverfull : ByteArray := prog_4_method_8_code
def yX2_isOverfull : MethodName := ⟨RX2, "isOverfull", "()Z"⟩
abbrev cX2_doorCell : ByteArray := prog_4_method_9_code
def yX2_doorCell : MethodName := ⟨RX2, "doorCell", "(I)I"⟩
abbrev cX2_portDirection : ByteArray := prog_4_method_10_code
def yX2_portDirection : MethodName := ⟨RX2, "portDirection", "(I)I"⟩
abbrev cX2_portCell : ByteArray := prog_4_method_11_code
def yX2_portCell : MethodName := ⟨RX2, "portCell", "(I)I"⟩
abbrev cX2_beyond : ByteArray := prog_4_method_12_code
def yX2_beyond : MethodName := ⟨RX2, "beyond", "(II)I"⟩
abbrev cX2_become : ByteArray := prog_4_method_13_code
def yX2_become : MethodName := ⟨RX2, "become", "(LMirrorShares$Room;)V"⟩
abbrev cX2_becomeTurned : ByteArray := prog_4_method_14_code
def yX2_becomeTurned : MethodName := ⟨RX2, "becomeTurned", "(LMirrorShares$Room;)V"⟩
abbrev cX2_turnedKind : ByteArray := prog_4_method_15_code
def yX2_turnedKind : MethodName := ⟨RX2, "turnedKind", "(I)I"⟩
abbrev cX2_empty : ByteArray := prog_4_method_16_code
def yX2_empty : MethodName := ⟨RX2, "empty", "()V"⟩
abbrev cX2_addRow : ByteArray := prog_4_method_17_code
def yX2_addRow : MethodName := ⟨RX2, "addRow", "(I)Z"⟩
def RX3 : String := "MirrorShares$Told"
def TX3 : u_T := fun k => match k with
  | 0 => ("MirrorShares$Told", "letters", "[I", true)
  | _ => ("MirrorShares$Told", "length", "I", false)
def tyX3 : Nat → FieldType := fun k => match k with
  | 0 => .array .int
  | _ => .int
abbrev wsX30 : List Cond := u_ws RX3 TX3 2
theorem nmX3 : ∀ a, a < 2 → ∀ b, b < 2 → a ≠ b → (TX3 a).2.1 ≠ (TX3 b).2.1 := by decide +kernel
theorem tyX3_ok : ∀ k, k < 2 → parseFieldDescriptor (TX3 k).2.2.1 = some (tyX3 k) := by decide +kernel
abbrev cX3_init : ByteArray := prog_5_method_1_code
def yX3_init : MethodName := ⟨RX3, "<init>", "()V"⟩
abbrev cX3_append : ByteArray := prog_5_method_2_code
def yX3_append : MethodName := ⟨RX3, "append", "(I)I"⟩
abbrev cX3_clear : ByteArray := prog_5_method_3_code
def yX3_clear : MethodName := ⟨RX3, "clear", "()I"⟩
abbrev cX3_readInto : ByteArray := prog_5_method_4_code
def yX3_readInto : MethodName := ⟨RX3, "readInto", "(LMirrorShares$Room;)I"⟩
abbrev cX3_letterAt : ByteArray := prog_5_method_5_code
def yX3_letterAt : MethodName := ⟨RX3, "letterAt", "(I)I"⟩
abbrev cX3_endOfItem : ByteArray := prog_5_method_6_code
def yX3_endOfItem : MethodName := ⟨RX3, "endOfItem", "(I)I"⟩
abbrev cX3_readRow : ByteArray := prog_5_method_7_code
def yX3_readRow : MethodName := ⟨RX3, "readRow", "(IILMirrorShares$Room;)Z"⟩
def RX4 : String := "MirrorShares$Walk"
def TX4 : u_T := fun k => match k with
  | 0 => ("MirrorShares$Walk", "queue", "[I", true)
  | 1 => ("MirrorShares$Walk", "cellsTo", "[I", true)
  | 2 => ("MirrorShares$Walk", "cellsToPort", "[I", true)
  | 3 => ("MirrorShares$Walk", "waiting", "I", false)
  | _ => ("MirrorShares$Walk", "litCells", "I", false)
def tyX4 : Nat → FieldType := fun k => match k with
  | 0 => .array .int
  | 1 => .array .int
  | 2 => .array .int
  | 3 => .int
  | _ => .int
abbrev wsX40 : List Cond := u_ws RX4 TX4 5
theorem nmX4 : ∀ a, a < 5 → ∀ b, b < 5 → a ≠ b → (TX4 a).2.1 ≠ (TX4 b).2.1 := by decide +kernel
theorem tyX4_ok : ∀ k, k < 5 → parseFieldDescriptor (TX4 k).2.2.1 = some (tyX4 k) := by decide +kernel
abbrev cX4_init : ByteArray := prog_6_method_1_code
def yX4_init : MethodName := ⟨RX4, "<init>", "()V"⟩
abbrev cX4_goFrom : ByteArray := prog_6_method_2_code
def yX4_goFrom : MethodName := ⟨RX4, "goFrom", "(LMirrorShares$Room;I)V"⟩
abbrev cX4_fewestTo : ByteArray := prog_6_method_3_code
def yX4_fewestTo : MethodName := ⟨RX4, "fewestTo", "(I)I"⟩
abbrev cX4_enter : ByteArray := prog_6_method_4_code
def yX4_enter : MethodName := ⟨RX4, "enter", "(III)V"⟩
abbrev cX4_spread : ByteArray := prog_6_method_5_code
def yX4_spread : MethodName := ⟨RX4, "spread", "(LMirrorShares$Room;II)V"⟩
abbrev cX4_leave : ByteArray := prog_6_method_6_code
def yX4_leave : MethodName := ⟨RX4, "leave", "(LMirrorShares$Room;III)V"⟩
abbrev cX4_reach : ByteArray := prog_6_method_7_code
def yX4_reach : MethodName := ⟨RX4, "reach", "(II)V"⟩
def RX5 : String := "MirrorShares"
def TX5 : u_T := fun k => match k with
  | 0 => ("MirrorShares", "text", "LMirrorShares$Told;", true)
  | 1 => ("MirrorShares", "room", "LMirrorShares$Room;", true)
  | 2 => ("MirrorShares", "trial", "LMirrorShares$Room;", true)
  | 3 => ("MirrorShares", "past", "LMirrorShares$Past;", true)
  | 4 => ("MirrorShares", "walk", "LMirrorShares$Walk;", true)
  | _ => ("MirrorShares", "beam", "LMirrorShares$Beam;", true)
def tyX5 : Nat → FieldType := fun k => match k with
  | 0 => .object "MirrorShares$Told"
  | 1 => .object "MirrorShares$Room"
  | 2 => .object "MirrorShares$Room"
  | 3 => .object "MirrorShares$Past"
  | 4 => .object "MirrorShares$Walk"
  | _ => .object "MirrorShares$Beam"
abbrev wsX50 : List Cond := u_ws RX5 TX5 6
theorem nmX5 : ∀ a, a < 6 → ∀ b, b < 6 → a ≠ b → (TX5 a).2.1 ≠ (TX5 b).2.1 := by decide +kernel
theorem tyX5_ok : ∀ k, k < 6 → parseFieldDescriptor (TX5 k).2.2.1 = some (tyX5 k) := by decide +kernel
abbrev cX5_init : ByteArray := prog_1_method_1_code
def yX5_init : MethodName := ⟨RX5, "<init>", "()V"⟩
abbrev cX5_write : ByteArray := prog_1_method_2_code
def yX5_write : MethodName := ⟨RX5, "write", "(I)I"⟩
abbrev cX5_wipe : ByteArray := prog_1_method_3_code
def yX5_wipe : MethodName := ⟨RX5, "wipe", "()I"⟩
abbrev cX5_fault : ByteArray := prog_1_method_4_code
def yX5_fault : MethodName := ⟨RX5, "fault", "()I"⟩
abbrev cX5_lay : ByteArray := prog_1_method_5_code
def yX5_lay : MethodName := ⟨RX5, "lay", "()I"⟩
abbrev cX5_put : ByteArray := prog_1_method_6_code
def yX5_put : MethodName := ⟨RX5, "put", "(II)I"⟩
abbrev cX5_door : ByteArray := prog_1_method_7_code
def yX5_door : MethodName := ⟨RX5, "door", "(II)I"⟩
abbrev cX5_turn : ByteArray := prog_1_method_8_code
def yX5_turn : MethodName := ⟨RX5, "turn", "()I"⟩
abbrev cX5_undo : ByteArray := prog_1_method_9_code
def yX5_undo : MethodName := ⟨RX5, "undo", "()I"⟩
abbrev cX5_change : ByteArray := prog_1_method_10_code
def yX5_change : MethodName := ⟨RX5, "change", "(III)V"⟩
abbrev cX5_turnRoom : ByteArray := prog_1_method_11_code
def yX5_turnRoom : MethodName := ⟨RX5, "turnRoom", "()V"⟩
abbrev cX5_cell : ByteArray := prog_1_method_12_code
def yX5_cell : MethodName := ⟨RX5, "cell", "(I)I"⟩
abbrev cX5_doorAt : ByteArray := prog_1_method_13_code
def yX5_doorAt : MethodName := ⟨RX5, "doorAt", "(I)I"⟩
abbrev cX5_port : ByteArray := prog_1_method_14_code
def yX5_port : MethodName := ⟨RX5, "port", "(II)I"⟩
abbrev cX5_share : ByteArray := prog_1_method_15_code
def yX5_share : MethodName := ⟨RX5, "share", "(III)I"⟩
abbrev cX5_lost : ByteArray := prog_1_method_16_code
def yX5_lost : MethodName := ⟨RX5, "lost", "(II)I"⟩
abbrev cX5_bits : ByteArray := prog_1_method_17_code
def yX5_bits : MethodName := ⟨RX5, "bits", "(II)I"⟩
abbrev cX5_lit : ByteArray := prog_1_method_18_code
def yX5_lit : MethodName := ⟨RX5, "lit", "(I)I"⟩
abbrev cX5_far : ByteArray := prog_1_method_19_code
def yX5_far : MethodName := ⟨RX5, "far", "(II)I"⟩
abbrev cX5_alike : ByteArray := prog_1_method_20_code
def yX5_alike : MethodName := ⟨RX5, "alike", "(II)I"⟩
abbrev cX5_best : ByteArray := prog_1_method_21_code
def yX5_best : MethodName := ⟨RX5, "best", "(III)I"⟩
abbrev cX5_found : ByteArray := prog_1_method_22_code
def yX5_found : MethodName := ⟨RX5, "found", "(IIIII)I"⟩
abbrev cX5_count : ByteArray := prog_1_method_23_code
def yX5_count : MethodName := ⟨RX5, "count", "(I)I"⟩
abbrev cX5_hasPorts : ByteArray := prog_1_method_24_code
def yX5_hasPorts : MethodName := ⟨RX5, "hasPorts", "(II)Z"⟩
abbrev cX5_isPart : ByteArray := prog_1_method_25_code
def yX5_isPart : MethodName := ⟨RX5, "isPart", "(II)Z"⟩
abbrev cX5_openOnly : ByteArray := prog_1_method_26_code
def yX5_openOnly : MethodName := ⟨RX5, "openOnly", "(I)V"⟩
abbrev cX5_tryCell : ByteArray := prog_1_method_27_code
def yX5_tryCell : MethodName := ⟨RX5, "tryCell", "(II)V"⟩
abbrev cX5_compareFractions : ByteArray := prog_1_method_28_code
def yX5_compareFractions : MethodName := ⟨RX5, "compareFractions", "(JJJJ)I"⟩
abbrev cX5_lowest : ByteArray := prog_1_method_29_code
def yX5_lowest : MethodName := ⟨RX5, "lowest", "(JJI)I"⟩
abbrev cX5_commonDivisor : ByteArray := prog_1_method_30_code
def yX5_commonDivisor : MethodName := ⟨RX5, "commonDivisor", "(JJ)J"⟩
abbrev cX5_floatBits : ByteArray := prog_1_method_31_code
def yX5_floatBits : MethodName := ⟨RX5, "floatBits", "(II)I"⟩
abbrev cX5_isHalf : ByteArray := prog_1_method_32_code
def yX5_isHalf : MethodName := ⟨RX5, "isHalf", "(I)Z"⟩
abbrev cX5_letsOn : ByteArray := prog_1_method_33_code
def yX5_letsOn : MethodName := ⟨RX5, "letsOn", "(I)Z"⟩
abbrev cX5_turnsBeam : ByteArray := prog_1_method_34_code
def yX5_turnsBeam : MethodName := ⟨RX5, "turnsBeam", "(I)Z"⟩
abbrev cX5_turnedBy : ByteArray := prog_1_method_35_code
def yX5_turnedBy : MethodName := ⟨RX5, "turnedBy", "(II)I"⟩
def RX6 : String := "MirrorSharesModel"
def TX6 : u_T := fun k => match k with
  | 0 => ("MirrorSharesModel", "now", "[I", true)
  | 1 => ("MirrorSharesModel", "read", "[I", true)
  | 2 => ("MirrorSharesModel", "aside", "[I", true)
  | 3 => ("MirrorSharesModel", "past", "[I", true)
  | 4 => ("MirrorSharesModel", "changes", "I", false)
  | 5 => ("MirrorSharesModel", "text", "[I", true)
  | 6 => ("MirrorSharesModel", "letters", "I", false)
  | 7 => ("MirrorSharesModel", "spot", "I", false)
  | 8 => ("MirrorSharesModel", "nodes", "[I", true)
  | 9 => ("MirrorSharesModel", "comes", "[I", true)
  | 10 => ("MirrorSharesModel", "may", "[Z", true)
  | 11 => ("MirrorSharesModel", "nodeMany", "I", false)
  | 12 => ("MirrorSharesModel", "place", "[I", true)
  | 13 => ("MirrorSharesModel", "rows", "[J", true)
  | 14 => ("MirrorSharesModel", "above", "J", false)
  | 15 => ("MirrorSharesModel", "below", "J", false)
  | 16 => ("MirrorSharesModel", "line", "[I", true)
  | 17 => ("MirrorSharesModel", "took", "[I", true)
  | _ => ("MirrorSharesModel", "met", "I", false)
def tyX6 : Nat → FieldType := fun k => match k with
  | 0 => .array .int
  | 1 => .array .int
  | 2 => .array .int
  | 3 => .array .int
  | 4 => .int
  | 5 => .array .int
  | 6 => .int
  | 7 => .int
  | 8 => .array .int
  | 9 => .array .int
  | 10 => .array .boolean
  | 11 => .int
  | 12 => .array .int
  | 13 => .array .long
  | 14 => .long
  | 15 => .long
  | 16 => .array .int
  | 17 => .array .int
  | _ => .int
abbrev wsX60 : List Cond := u_ws RX6 TX6 19
theorem nmX6 : ∀ a, a < 19 → ∀ b, b < 19 → a ≠ b → (TX6 a).2.1 ≠ (TX6 b).2.1 := by decide +kernel
theorem tyX6_ok : ∀ k, k < 19 → parseFieldDescriptor (TX6 k).2.2.1 = some (tyX6 k) := by decide +kernel
abbrev cX6_init : ByteArray := prog_8_method_1_code
def yX6_init : MethodName := ⟨RX6, "<init>", "()V"⟩
abbrev cX6_in : ByteArray := prog_8_method_3_code
def yX6_in : MethodName := ⟨RX6, "in", "(III)Z"⟩
abbrev cX6_copies : ByteArray := prog_8_method_4_code
def yX6_copies : MethodName := ⟨RX6, "copies", "([II[II)V"⟩
abbrev cX6_cells : ByteArray := prog_8_method_5_code
def yX6_cells : MethodName := ⟨RX6, "cells", "([I)I"⟩
abbrev cX6_isHalf : ByteArray := prog_8_method_6_code
def yX6_isHalf : MethodName := ⟨RX6, "isHalf", "(I)Z"⟩
abbrev cX6_isDoor : ByteArray := prog_8_method_7_code
def yX6_isDoor : MethodName := ⟨RX6, "isDoor", "(I)Z"⟩
abbrev cX6_halves : ByteArray := prog_8_method_8_code
def yX6_halves : MethodName := ⟨RX6, "halves", "([I)I"⟩
abbrev cX6_doors : ByteArray := prog_8_method_9_code
def yX6_doors : MethodName := ⟨RX6, "doors", "([I)I"⟩
abbrev cX6_kindOf : ByteArray := prog_8_method_10_code
def yX6_kindOf : MethodName := ⟨RX6, "kindOf", "(I)I"⟩
abbrev cX6_takesRow : ByteArray := prog_8_method_11_code
def yX6_takesRow : MethodName := ⟨RX6, "takesRow", "()Z"⟩
abbrev cX6_reads : ByteArray := prog_8_method_12_code
def yX6_reads : MethodName := ⟨RX6, "reads", "()I"⟩
abbrev cX6_write : ByteArray := prog_8_method_13_code
def yX6_write : MethodName := ⟨RX6, "write", "(I)I"⟩
abbrev cX6_wipe : ByteArray := prog_8_method_14_code
def yX6_wipe : MethodName := ⟨RX6, "wipe", "()I"⟩
abbrev cX6_fault : ByteArray := prog_8_method_15_code
def yX6_fault : MethodName := ⟨RX6, "fault", "()I"⟩
abbrev cX6_lay : ByteArray := prog_8_method_16_code
def yX6_lay : MethodName := ⟨RX6, "lay", "()I"⟩
abbrev cX6_keeps : ByteArray := prog_8_method_17_code
def yX6_keeps : MethodName := ⟨RX6, "keeps", "()V"⟩
abbrev cX6_undo : ByteArray := prog_8_method_18_code
def yX6_undo : MethodName := ⟨RX6, "undo", "()I"⟩
abbrev cX6_isCell : ByteArray := prog_8_method_19_code
def yX6_isCell : MethodName := ⟨RX6, "isCell", "(I)Z"⟩
abbrev cX6_put : ByteArray := prog_8_method_20_code
def yX6_put : MethodName := ⟨RX6, "put", "(II)I"⟩
abbrev cX6_doorCell : ByteArray := prog_8_method_21_code
def yX6_doorCell : MethodName := ⟨RX6, "doorCell", "([II)I"⟩
abbrev cX6_openOf : ByteArray := prog_8_method_22_code
def yX6_openOf : MethodName := ⟨RX6, "openOf", "([I)I"⟩
abbrev cX6_isTheDoor : ByteArray := prog_8_method_23_code
def yX6_isTheDoor : MethodName := ⟨RX6, "isTheDoor", "(I)Z"⟩
abbrev cX6_door : ByteArray := prog_8_method_24_code
def yX6_door : MethodName := ⟨RX6, "door", "(II)I"⟩
abbrev cX6_turn : ByteArray := prog_8_method_25_code
def yX6_turn : MethodName := ⟨RX6, "turn", "()I"⟩
abbrev cX6_cell : ByteArray := prog_8_method_26_code
def yX6_cell : MethodName := ⟨RX6, "cell", "(I)I"⟩
abbrev cX6_doorAt : ByteArray := prog_8_method_27_code
def yX6_doorAt : MethodName := ⟨RX6, "doorAt", "(I)I"⟩
abbrev cX6_ports : ByteArray := prog_8_method_28_code
def yX6_ports : MethodName := ⟨RX6, "ports", "([I)I"⟩
abbrev cX6_isPort : ByteArray := prog_8_method_29_code
def yX6_isPort : MethodName := ⟨RX6, "isPort", "(I)Z"⟩
abbrev cX6_portState : ByteArray := prog_8_method_30_code
def yX6_portState : MethodName := ⟨RX6, "portState", "([II)I"⟩
abbrev cX6_port : ByteArray := prog_8_method_31_code
def yX6_port : MethodName := ⟨RX6, "port", "(II)I"⟩
abbrev cX6_onward : ByteArray := prog_8_method_32_code
def yX6_onward : MethodName := ⟨RX6, "onward", "([III)I"⟩
abbrev cX6_turned : ByteArray := prog_8_method_33_code
def yX6_turned : MethodName := ⟨RX6, "turned", "(II)I"⟩
abbrev cX6_waysOf : ByteArray := prog_8_method_34_code
def yX6_waysOf : MethodName := ⟨RX6, "waysOf", "([II)I"⟩
abbrev cX6_goes : ByteArray := prog_8_method_35_code
def yX6_goes : MethodName := ⟨RX6, "goes", "([III)I"⟩
abbrev cX6_follows : ByteArray := prog_8_method_36_code
def yX6_follows : MethodName := ⟨RX6, "follows", "([II)I"⟩
abbrev cX6_isAsked : ByteArray := prog_8_method_37_code
def yX6_isAsked : MethodName := ⟨RX6, "isAsked", "(II)Z"⟩
abbrev cX6_gathers : ByteArray := prog_8_method_38_code
def yX6_gathers : MethodName := ⟨RX6, "gathers", "([II)V"⟩
abbrev cX6_findsMay : ByteArray := prog_8_method_39_code
def yX6_findsMay : MethodName := ⟨RX6, "findsMay", "(I)V"⟩
abbrev cX6_laysRows : ByteArray := prog_8_method_40_code
def yX6_laysRows : MethodName := ⟨RX6, "laysRows", "(I)I"⟩
abbrev cX6_solves : ByteArray := prog_8_method_41_code
def yX6_solves : MethodName := ⟨RX6, "solves", "(I)V"⟩
abbrev cX6_lowers : ByteArray := prog_8_method_42_code
def yX6_lowers : MethodName := ⟨RX6, "lowers", "()V"⟩
abbrev cX6_shares : ByteArray := prog_8_method_43_code
def yX6_shares : MethodName := ⟨RX6, "shares", "([III)V"⟩
abbrev cX6_share : ByteArray := prog_8_method_44_code
def yX6_share : MethodName := ⟨RX6, "share", "(III)I"⟩
abbrev cX6_lostOf : ByteArray := prog_8_method_45_code
def yX6_lostOf : MethodName := ⟨RX6, "lostOf", "(II)J"⟩
abbrev cX6_lost : ByteArray := prog_8_method_46_code
def yX6_lost : MethodName := ⟨RX6, "lost", "(II)I"⟩
abbrev cX6_bits : ByteArray := prog_8_method_47_code
def yX6_bits : MethodName := ⟨RX6, "bits", "(II)I"⟩
abbrev cX6_spreads : ByteArray := prog_8_method_48_code
def yX6_spreads : MethodName := ⟨RX6, "spreads", "(I)V"⟩
abbrev cX6_lit : ByteArray := prog_8_method_49_code
def yX6_lit : MethodName := ⟨RX6, "lit", "(I)I"⟩
abbrev cX6_far : ByteArray := prog_8_method_50_code
def yX6_far : MethodName := ⟨RX6, "far", "(II)I"⟩
abbrev cX6_alike : ByteArray := prog_8_method_51_code
def yX6_alike : MethodName := ⟨RX6, "alike", "(II)I"⟩
abbrev cX6_ones : ByteArray := prog_8_method_52_code
def yX6_ones : MethodName := ⟨RX6, "ones", "(I)I"⟩
abbrev cX6_best : ByteArray := prog_8_method_53_code
def yX6_best : MethodName := ⟨RX6, "best", "(III)I"⟩
abbrev cX6_found : ByteArray := prog_8_method_54_code
def yX6_found : MethodName := ⟨RX6, "found", "(IIIII)I"⟩
abbrev cX6_count : ByteArray := prog_8_method_55_code
def yX6_count : MethodName := ⟨RX6, "count", "(I)I"⟩
def RJx145de : String := "java/io/Serializable"
def TJx145de : u_T := fun k => match k with
  | _ => ("", "", "", false)
def tyJx145de : Nat → FieldType := fun k => match k with
  | _ => .int
abbrev wsJx145de0 : List Cond := u_ws RJx145de TJx145de 0
theorem nmJx145de : ∀ a, a < 0 → ∀ b, b < 0 → a ≠ b → (TJx145de a).2.1 ≠ (TJx145de b).2.1 := by decide +kernel
theorem tyJx145de_ok : ∀ k, k < 0 → parseFieldDescriptor (TJx145de k).2.2.1 = some (tyJx145de k) := by decide +kernel
def RJx9f9b0 : String := "java/lang/CharSequence"
def TJx9f9b0 : u_T := fun k => match k with
  | _ => ("", "", "", false)
def tyJx9f9b0 : Nat → FieldType := fun k => match k with
  | _ => .int
abbrev wsJx9f9b00 : List Cond := u_ws RJx9f9b0 TJx9f9b0 0
theorem nmJx9f9b0 : ∀ a, a < 0 → ∀ b, b < 0 → a ≠ b → (TJx9f9b0 a).2.1 ≠ (TJx9f9b0 b).2.1 := by decide +kernel
theorem tyJx9f9b0_ok : ∀ k, k < 0 → parseFieldDescriptor (TJx9f9b0 k).2.2.1 = some (tyJx9f9b0 k) := by decide +kernel
def RJ11 : String := "java/lang/Character"
def TJ11 : u_T := fun k => match k with
  | _ => ("", "", "", false)
def tyJ11 : Nat → FieldType := fun k => match k with
  | _ => .int
abbrev wsJ110 : List Cond := u_ws RJ11 TJ11 0
theorem nmJ11 : ∀ a, a < 0 → ∀ b, b < 0 → a ≠ b → (TJ11 a).2.1 ≠ (TJ11 b).2.1 := by decide +kernel
theorem tyJ11_ok : ∀ k, k < 0 → parseFieldDescriptor (TJ11 k).2.2.1 = some (tyJ11 k) := by decide +kernel
abbrev cJ11_isValidCodePoint_9a6ad : ByteArray := prog_9_method_11_code
def yJ11_isValidCodePoint_9a6ad : MethodName := ⟨RJ11, "isValidCodePoint", "(I)Z"⟩
abbrev cJ11_highSurrogate_5068e : ByteArray := prog_9_method_28_code
def yJ11_highSurrogate_5068e : MethodName := ⟨RJ11, "highSurrogate", "(I)C"⟩
abbrev cJ11_lowSurrogate_5068e : ByteArray := prog_9_method_29_code
def yJ11_lowSurrogate_5068e : MethodName := ⟨RJ11, "lowSurrogate", "(I)C"⟩
def RJxb160c : String := "java/lang/Comparable"
def TJxb160c : u_T := fun k => match k with
  | _ => ("", "", "", false)
def tyJxb160c : Nat → FieldType := fun k => match k with
  | _ => .int
abbrev wsJxb160c0 : List Cond := u_ws RJxb160c TJxb160c 0
theorem nmJxb160c : ∀ a, a < 0 → ∀ b, b < 0 → a ≠ b → (TJxb160c a).2.1 ≠ (TJxb160c b).2.1 := by decide +kernel
theorem tyJxb160c_ok : ∀ k, k < 0 → parseFieldDescriptor (TJxb160c k).2.2.1 = some (tyJxb160c k) := by decide +kernel
def RJxf58ca : String := "java/lang/Float"
def TJxf58ca : u_T := fun k => match k with
  | _ => ("", "", "", false)
def tyJxf58ca : Nat → FieldType := fun k => match k with
  | _ => .int
abbrev wsJxf58ca0 : List Cond := u_ws RJxf58ca TJxf58ca 0
theorem nmJxf58ca : ∀ a, a < 0 → ∀ b, b < 0 → a ≠ b → (TJxf58ca a).2.1 ≠ (TJxf58ca b).2.1 := by decide +kernel
theorem tyJxf58ca_ok : ∀ k, k < 0 → parseFieldDescriptor (TJxf58ca k).2.2.1 = some (tyJxf58ca k) := by decide +kernel
abbrev cJxf58ca_isNaN_12338 : ByteArray := prog_10_method_6_code
def yJxf58ca_isNaN_12338 : MethodName := ⟨RJxf58ca, "isNaN", "(F)Z"⟩
abbrev cJxf58ca_floatToIntBits_5c35a : ByteArray := prog_10_method_24_code
def yJxf58ca_floatToIntBits_5c35a : MethodName := ⟨RJxf58ca, "floatToIntBits", "(F)I"⟩
def RJ6 : String := "java/lang/Integer"
def TJ6 : u_T := fun k => match k with
  | _ => ("", "", "", false)
def tyJ6 : Nat → FieldType := fun k => match k with
  | _ => .int
abbrev wsJ60 : List Cond := u_ws RJ6 TJ6 0
theorem nmJ6 : ∀ a, a < 0 → ∀ b, b < 0 → a ≠ b → (TJ6 a).2.1 ≠ (TJ6 b).2.1 := by decide +kernel
theorem tyJ6_ok : ∀ k, k < 0 → parseFieldDescriptor (TJ6 k).2.2.1 = some (tyJ6 k) := by decide +kernel
abbrev cJ6_bitCount_0f7a4 : ByteArray := prog_11_method_49_code
def yJ6_bitCount_0f7a4 : MethodName := ⟨RJ6, "bitCount", "(I)I"⟩
def RJ13 : String := "java/lang/Long"
def TJ13 : u_T := fun k => match k with
  | _ => ("", "", "", false)
def tyJ13 : Nat → FieldType := fun k => match k with
  | _ => .int
abbrev wsJ130 : List Cond := u_ws RJ13 TJ13 0
theorem nmJ13 : ∀ a, a < 0 → ∀ b, b < 0 → a ≠ b → (TJ13 a).2.1 ≠ (TJ13 b).2.1 := by decide +kernel
theorem tyJ13_ok : ∀ k, k < 0 → parseFieldDescriptor (TJ13 k).2.2.1 = some (tyJ13 k) := by decide +kernel
abbrev cJ13_compare_74951 : ByteArray := prog_12_method_42_code
def yJ13_compare_74951 : MethodName := ⟨RJ13, "compare", "(JJ)I"⟩
def RJ9 : String := "java/lang/Math"
def TJ9 : u_T := fun k => match k with
  | _ => ("", "", "", false)
def tyJ9 : Nat → FieldType := fun k => match k with
  | _ => .int
abbrev wsJ90 : List Cond := u_ws RJ9 TJ9 0
theorem nmJ9 : ∀ a, a < 0 → ∀ b, b < 0 → a ≠ b → (TJ9 a).2.1 ≠ (TJ9 b).2.1 := by decide +kernel
theorem tyJ9_ok : ∀ k, k < 0 → parseFieldDescriptor (TJ9 k).2.2.1 = some (tyJ9 k) := by decide +kernel
abbrev cJ9_max_7cf53 : ByteArray := prog_13_method_65_code
def yJ9_max_7cf53 : MethodName := ⟨RJ9, "max", "(II)I"⟩
abbrev cJ9_min_7cf53 : ByteArray := prog_13_method_69_code
def yJ9_min_7cf53 : MethodName := ⟨RJ9, "min", "(II)I"⟩
def RJxd2413 : String := "java/lang/Number"
def TJxd2413 : u_T := fun k => match k with
  | _ => ("", "", "", false)
def tyJxd2413 : Nat → FieldType := fun k => match k with
  | _ => .int
abbrev wsJxd24130 : List Cond := u_ws RJxd2413 TJxd2413 0
theorem nmJxd2413 : ∀ a, a < 0 → ∀ b, b < 0 → a ≠ b → (TJxd2413 a).2.1 ≠ (TJxd2413 b).2.1 := by decide +kernel
theorem tyJxd2413_ok : ∀ k, k < 0 → parseFieldDescriptor (TJxd2413 k).2.2.1 = some (tyJxd2413 k) := by decide +kernel
def RJ0 : String := "java/lang/String"
def TJ0 : u_T := fun k => match k with
  | _ => ("", "", "", false)
def tyJ0 : Nat → FieldType := fun k => match k with
  | _ => .int
abbrev wsJ00 : List Cond := u_ws RJ0 TJ0 0
theorem nmJ0 : ∀ a, a < 0 → ∀ b, b < 0 → a ≠ b → (TJ0 a).2.1 ≠ (TJ0 b).2.1 := by decide +kernel
theorem tyJ0_ok : ∀ k, k < 0 → parseFieldDescriptor (TJ0 k).2.2.1 = some (tyJ0 k) := by decide +kernel
abbrev cJ0_length_8abf5 : ByteArray := prog_15_method_54_code
def yJ0_length_8abf5 : MethodName := ⟨RJ0, "length", "()I"⟩
abbrev cJ0_indexOf_0f7a4 : ByteArray := prog_15_method_79_code
def yJ0_indexOf_0f7a4 : MethodName := ⟨RJ0, "indexOf", "(I)I"⟩
abbrev cJ0_indexOf_7cf53 : ByteArray := prog_15_method_80_code
def yJ0_indexOf_7cf53 : MethodName := ⟨RJ0, "indexOf", "(II)I"⟩
abbrev cJ0_coder_7d493 : ByteArray := prog_15_method_152_code
def yJ0_coder_7d493 : MethodName := ⟨RJ0, "coder", "()B"⟩
abbrev cJ0_isLatin1_aae02 : ByteArray := prog_15_method_154_code
def yJ0_isLatin1_aae02 : MethodName := ⟨RJ0, "isLatin1", "()Z"⟩
abbrev cJ0_checkBoundsBeginEnd_23922 : ByteArray := prog_15_method_158_code
def yJ0_checkBoundsBeginEnd_23922 : MethodName := ⟨RJ0, "checkBoundsBeginEnd", "(III)V"⟩
def RJ1 : String := "java/lang/StringLatin1"
def TJ1 : u_T := fun k => match k with
  | _ => ("", "", "", false)
def tyJ1 : Nat → FieldType := fun k => match k with
  | _ => .int
abbrev wsJ10 : List Cond := u_ws RJ1 TJ1 0
theorem nmJ1 : ∀ a, a < 0 → ∀ b, b < 0 → a ≠ b → (TJ1 a).2.1 ≠ (TJ1 b).2.1 := by decide +kernel
theorem tyJ1_ok : ∀ k, k < 0 → parseFieldDescriptor (TJ1 k).2.2.1 = some (tyJ1 k) := by decide +kernel
abbrev cJ1_canEncode_9a6ad : ByteArray := prog_16_method_4_code
def yJ1_canEncode_9a6ad : MethodName := ⟨RJ1, "canEncode", "(I)Z"⟩
abbrev cJ1_indexOf_4cfef : ByteArray := prog_16_method_22_code
def yJ1_indexOf_4cfef : MethodName := ⟨RJ1, "indexOf", "([BIII)I"⟩
abbrev cJ1_indexOfChar_4cfef : ByteArray := prog_16_method_23_code
def yJ1_indexOfChar_4cfef : MethodName := ⟨RJ1, "indexOfChar", "([BIII)I"⟩
def RJ2 : String := "java/lang/StringUTF16"
def TJ2 : u_T := fun k => match k with
  | _ => ("", "", "", false)
def tyJ2 : Nat → FieldType := fun k => match k with
  | _ => .int
abbrev wsJ20 : List Cond := u_ws RJ2 TJ2 0
theorem nmJ2 : ∀ a, a < 0 → ∀ b, b < 0 → a ≠ b → (TJ2 a).2.1 ≠ (TJ2 b).2.1 := by decide +kernel
theorem tyJ2_ok : ∀ k, k < 0 → parseFieldDescriptor (TJ2 k).2.2.1 = some (tyJ2 k) := by decide +kernel
abbrev cJ2_getChar_3b067 : ByteArray := prog_17_method_5_code
def yJ2_getChar_3b067 : MethodName := ⟨RJ2, "getChar", "([BI)C"⟩
abbrev cJ2_length_9d52b : ByteArray := prog_17_method_6_code
def yJ2_length_9d52b : MethodName := ⟨RJ2, "length", "([B)I"⟩
abbrev cJ2_indexOf_4cfef : ByteArray := prog_17_method_40_code
def yJ2_indexOf_4cfef : MethodName := ⟨RJ2, "indexOf", "([BIII)I"⟩
abbrev cJ2_indexOfChar_4cfef : ByteArray := prog_17_method_47_code
def yJ2_indexOfChar_4cfef : MethodName := ⟨RJ2, "indexOfChar", "([BIII)I"⟩
abbrev cJ2_indexOfCharUnsafe_4cfef : ByteArray := prog_17_method_48_code
def yJ2_indexOfCharUnsafe_4cfef : MethodName := ⟨RJ2, "indexOfCharUnsafe", "([BIII)I"⟩
abbrev cJ2_indexOfSupplementary_4cfef : ByteArray := prog_17_method_49_code
def yJ2_indexOfSupplementary_4cfef : MethodName := ⟨RJ2, "indexOfSupplementary", "([BIII)I"⟩
abbrev cJ2_checkBoundsBeginEnd_d044e : ByteArray := prog_17_method_93_code
def yJ2_checkBoundsBeginEnd_d044e : MethodName := ⟨RJ2, "checkBoundsBeginEnd", "(II[B)V"⟩
def RJ10 : String := "java/lang/System"
def TJ10 : u_T := fun k => match k with
  | _ => ("", "", "", false)
def tyJ10 : Nat → FieldType := fun k => match k with
  | _ => .int
abbrev wsJ100 : List Cond := u_ws RJ10 TJ10 0
theorem nmJ10 : ∀ a, a < 0 → ∀ b, b < 0 → a ≠ b → (TJ10 a).2.1 ≠ (TJ10 b).2.1 := by decide +kernel
theorem tyJ10_ok : ∀ k, k < 0 → parseFieldDescriptor (TJ10 k).2.2.1 = some (tyJ10 k) := by decide +kernel
def RJxfd54e : String := "java/lang/constant/Constable"
def TJxfd54e : u_T := fun k => match k with
  | _ => ("", "", "", false)
def tyJxfd54e : Nat → FieldType := fun k => match k with
  | _ => .int
abbrev wsJxfd54e0 : List Cond := u_ws RJxfd54e TJxfd54e 0
theorem nmJxfd54e : ∀ a, a < 0 → ∀ b, b < 0 → a ≠ b → (TJxfd54e a).2.1 ≠ (TJxfd54e b).2.1 := by decide +kernel
theorem tyJxfd54e_ok : ∀ k, k < 0 → parseFieldDescriptor (TJxfd54e k).2.2.1 = some (tyJxfd54e k) := by decide +kernel
def RJx3cf43 : String := "java/lang/constant/ConstantDesc"
def TJx3cf43 : u_T := fun k => match k with
  | _ => ("", "", "", false)
def tyJx3cf43 : Nat → FieldType := fun k => match k with
  | _ => .int
abbrev wsJx3cf430 : List Cond := u_ws RJx3cf43 TJx3cf43 0
theorem nmJx3cf43 : ∀ a, a < 0 → ∀ b, b < 0 → a ≠ b → (TJx3cf43 a).2.1 ≠ (TJx3cf43 b).2.1 := by decide +kernel
theorem tyJx3cf43_ok : ∀ k, k < 0 → parseFieldDescriptor (TJx3cf43 k).2.2.1 = some (tyJx3cf43 k) := by decide +kernel
def RJ7 : String := "java/util/Arrays"
def TJ7 : u_T := fun k => match k with
  | _ => ("", "", "", false)
def tyJ7 : Nat → FieldType := fun k => match k with
  | _ => .int
abbrev wsJ70 : List Cond := u_ws RJ7 TJ7 0
theorem nmJ7 : ∀ a, a < 0 → ∀ b, b < 0 → a ≠ b → (TJ7 a).2.1 ≠ (TJ7 b).2.1 := by decide +kernel
theorem tyJ7_ok : ∀ k, k < 0 → parseFieldDescriptor (TJ7 k).2.2.1 = some (tyJ7 k) := by decide +kernel
abbrev cJ7_fill_d0a16 : ByteArray := prog_19_method_101_code
def yJ7_fill_d0a16 : MethodName := ⟨RJ7, "fill", "([JJ)V"⟩
abbrev cJ7_fill_53178 : ByteArray := prog_19_method_103_code
def yJ7_fill_53178 : MethodName := ⟨RJ7, "fill", "([II)V"⟩
def RJ3 : String := "jdk/internal/util/Preconditions"
def TJ3 : u_T := fun k => match k with
  | _ => ("", "", "", false)
def tyJ3 : Nat → FieldType := fun k => match k with
  | _ => .int
abbrev wsJ30 : List Cond := u_ws RJ3 TJ3 0
theorem nmJ3 : ∀ a, a < 0 → ∀ b, b < 0 → a ≠ b → (TJ3 a).2.1 ≠ (TJ3 b).2.1 := by decide +kernel
theorem tyJ3_ok : ∀ k, k < 0 → parseFieldDescriptor (TJ3 k).2.2.1 = some (tyJ3 k) := by decide +kernel
abbrev cJ3_checkFromToIndex_8c36e : ByteArray := prog_20_method_12_code
def yJ3_checkFromToIndex_8c36e : MethodName := ⟨RJ3, "checkFromToIndex", "(IIILjava/util/function/BiFunction;)I"⟩
def RL : String := "MirrorSharesLaw"
abbrev cL_law : ByteArray := code
def yL_law : MethodName := ⟨RL, "law", "([I)Z"⟩
def wsX0_init : List Cond := .code yX0_init cX0_init 1 none :: ([.methodLink RX0 5 objectInit, .instanceMethod objectInit, .code objectInit ⟨#[0xb1]⟩ 1 none, .arrayClass .int, .fieldLink RX0 11 "MirrorShares$Beam" "splitPlace" "[I", .fieldLink RX0 15 "MirrorShares$Beam" "splitNumber" "[I", .fieldLink RX0 18 "MirrorShares$Beam" "rayEnd" "[I", .classLink RX0 21 "[[J", .arrayClass .long, .fieldLink RX0 23 "MirrorShares$Beam" "rows" "[[J", .fieldLink RX0 26 "MirrorShares$Beam" "parts" "[J", .fieldLink RX0 30 "MirrorShares$Beam" "splits" "I", .fieldLink RX0 34 "MirrorShares$Beam" "whole" "J"] ++ wsX00)
def wsX0_outAt : List Cond := .code yX0_outAt cX0_outAt 2 (some .long) :: ([.fieldLink RX0 26 "MirrorShares$Beam" "parts" "[J"] ++ wsX00)
def wsX0_swallowed : List Cond := .code yX0_swallowed cX0_swallowed 1 (some .long) :: ([.fieldLink RX0 26 "MirrorShares$Beam" "parts" "[J"] ++ wsX00)
def wsX0_caught : List Cond := .code yX0_caught cX0_caught 4 (some .long) :: ([.fieldLink RX0 34 "MirrorShares$Beam" "whole" "J", .methodLink RX0 38 yX0_swallowed, .instanceMethod yX0_swallowed, .selects RX0 yX0_swallowed yX0_swallowed, .initialized RX0, .code yX0_swallowed cX0_swallowed 1 (some .long), .fieldLink RX0 26 "MirrorShares$Beam" "parts" "[J", .methodLink RX0 42 yX0_outAt, .instanceMethod yX0_outAt, .selects RX0 yX0_outAt yX0_outAt, .code yX0_outAt cX0_outAt 2 (some .long)] ++ wsX00)
def wsX2_portDirection : List Cond := .code yX2_portDirection cX2_portDirection 2 (some .int) :: ([.fieldLink RX2 15 "MirrorShares$Room" "columns" "I", .fieldLink RX2 19 "MirrorShares$Room" "rows" "I"] ++ wsX20)
def wsX2_portCell : List Cond := .code yX2_portCell cX2_portCell 2 (some .int) :: ([.fieldLink RX2 15 "MirrorShares$Room" "columns" "I", .fieldLink RX2 19 "MirrorShares$Room" "rows" "I", .methodLink RX2 46 yX2_portDirection, .instanceMethod yX2_portDirection, .selects RX2 yX2_portDirection yX2_portDirection, .initialized RX2, .code yX2_portDirection cX2_portDirection 2 (some .int)] ++ wsX20)
def wsX2_cells : List Cond := .code yX2_cells cX2_cells 1 (some .int) :: ([.fieldLink RX2 15 "MirrorShares$Room" "columns" "I", .fieldLink RX2 19 "MirrorShares$Room" "rows" "I"] ++ wsX20)
def wsX2_kindAt : List Cond := .code yX2_kindAt cX2_kindAt 2 (some .int) :: ([.fieldLink RX2 9 "MirrorShares$Room" "kinds" "[I", .methodLink RX2 35 yX2_cells, .instanceMethod yX2_cells, .selects RX2 yX2_cells yX2_cells, .initialized RX2, .code yX2_cells cX2_cells 1 (some .int), .fieldLink RX2 15 "MirrorShares$Room" "columns" "I", .fieldLink RX2 19 "MirrorShares$Room" "rows" "I"] ++ wsX20)
def wsX5_isHalf : List Cond := .code yX5_isHalf cX5_isHalf 1 (some .boolean) :: ([])
def wsX5_turnedBy : List Cond := .code yX5_turnedBy cX5_turnedBy 3 (some .int) :: ([])
def wsX5_letsOn : List Cond := .code yX5_letsOn cX5_letsOn 1 (some .boolean) :: ([.methodLink RX5 209 yX5_isHalf, .static yX5_isHalf, .initialized RX5, .code yX5_isHalf cX5_isHalf 1 (some .boolean)])
def wsX5_turnsBeam : List Cond := .code yX5_turnsBeam cX5_turnsBeam 1 (some .boolean) :: ([.methodLink RX5 209 yX5_isHalf, .static yX5_isHalf, .initialized RX5, .code yX5_isHalf cX5_isHalf 1 (some .boolean)])
def wsX2_beyond : List Cond := .code yX2_beyond cX2_beyond 5 (some .int) :: ([.fieldLink RX2 15 "MirrorShares$Room" "columns" "I", .fieldLink RX2 19 "MirrorShares$Room" "rows" "I"] ++ wsX20)
def wsX0_endOf_r1 : List Cond := [Cond.methodLink RX0 85 yX2_kindAt, Cond.instanceMethod yX2_kindAt, Cond.selects RX2 yX2_kindAt yX2_kindAt, Cond.initialized RX2, Cond.code yX2_kindAt cX2_kindAt 2 (some .int), Cond.fieldLink RX2 9 "MirrorShares$Room" "kinds" "[I", Cond.methodLink RX2 35 yX2_cells, Cond.instanceMethod yX2_cells, Cond.selects RX2 yX2_cells yX2_cells, Cond.code yX2_cells cX2_cells 1 (some .int), Cond.fieldLink RX2 15 "MirrorShares$Room" "columns" "I", Cond.fieldLink RX2 19 "MirrorShares$Room" "rows" "I", Cond.static yX5_isHalf, Cond.initialized RX5, Cond.code yX5_isHalf cX5_isHalf 1 (some .boolean), Cond.static yX5_turnedBy, Cond.code yX5_turnedBy cX5_turnedBy 3 (some .int), Cond.static yX5_letsOn, Cond.code yX5_letsOn cX5_letsOn 1 (some .boolean), Cond.methodLink RX5 209 yX5_isHalf, Cond.static yX5_turnsBeam, Cond.code yX5_turnsBeam cX5_turnsBeam 1 (some .boolean), Cond.methodLink RX0 92 yX2_beyond, Cond.instanceMethod yX2_beyond]
def wsX0_endOf_r2 : List Cond := [Cond.selects RX2 yX2_beyond yX2_beyond, Cond.code yX2_beyond cX2_beyond 5 (some .int)]
def wsX0_endOf : List Cond := .code yX0_endOf cX0_endOf 8 (some .int) :: ((wsX0_endOf_r1 ++ wsX0_endOf_r2) ++ wsX20)
def wsJ7_fill_53178 : List Cond := .code yJ7_fill_53178 cJ7_fill_53178 4 none :: ([])
def wsX0_noteSplit : List Cond := .code yX0_noteSplit cX0_noteSplit 2 none :: ([.fieldLink RX0 30 "MirrorShares$Beam" "splits" "I", .fieldLink RX0 15 "MirrorShares$Beam" "splitNumber" "[I", .fieldLink RX0 11 "MirrorShares$Beam" "splitPlace" "[I"] ++ wsX00)
def wsX0_endBeyond_r1 : List Cond := [Cond.methodLink RX0 92 yX2_beyond, Cond.instanceMethod yX2_beyond, Cond.selects RX2 yX2_beyond yX2_beyond, Cond.initialized RX2, Cond.code yX2_beyond cX2_beyond 5 (some .int), Cond.fieldLink RX2 15 "MirrorShares$Room" "columns" "I", Cond.fieldLink RX2 19 "MirrorShares$Room" "rows" "I", Cond.methodLink RX0 55 yX0_endOf, Cond.static yX0_endOf, Cond.initialized RX0, Cond.code yX0_endOf cX0_endOf 8 (some .int), Cond.methodLink RX0 85 yX2_kindAt, Cond.instanceMethod yX2_kindAt, Cond.selects RX2 yX2_kindAt yX2_kindAt, Cond.code yX2_kindAt cX2_kindAt 2 (some .int), Cond.fieldLink RX2 9 "MirrorShares$Room" "kinds" "[I", Cond.methodLink RX2 35 yX2_cells, Cond.instanceMethod yX2_cells, Cond.selects RX2 yX2_cells yX2_cells, Cond.code yX2_cells cX2_cells 1 (some .int), Cond.static yX5_isHalf, Cond.initialized RX5, Cond.code yX5_isHalf cX5_isHalf 1 (some .boolean), Cond.static yX5_turnedBy]
def wsX0_endBeyond_r2 : List Cond := [Cond.code yX5_turnedBy cX5_turnedBy 3 (some .int), Cond.static yX5_letsOn, Cond.code yX5_letsOn cX5_letsOn 1 (some .boolean), Cond.methodLink RX5 209 yX5_isHalf, Cond.static yX5_turnsBeam, Cond.code yX5_turnsBeam cX5_turnsBeam 1 (some .boolean)]
def wsX0_endBeyond : List Cond := .code yX0_endBeyond cX0_endBeyond 4 (some .int) :: ((wsX0_endBeyond_r1 ++ wsX0_endBeyond_r2) ++ wsX20)
def wsX0_findSplits_r1 : List Cond := [Cond.fieldLink RX0 15 "MirrorShares$Beam" "splitNumber" "[I", Cond.fieldLink RX0 30 "MirrorShares$Beam" "splits" "I", Cond.fieldLink RX0 11 "MirrorShares$Beam" "splitPlace" "[I", Cond.fieldLink RX0 18 "MirrorShares$Beam" "rayEnd" "[I", Cond.methodLink RX0 73 yJ7_fill_53178, Cond.static yJ7_fill_53178, Cond.initialized RJ7, Cond.code yJ7_fill_53178 cJ7_fill_53178 4 none, Cond.methodLink RX0 79 yX0_noteSplit, Cond.instanceMethod yX0_noteSplit, Cond.selects RX0 yX0_noteSplit yX0_noteSplit, Cond.initialized RX0, Cond.code yX0_noteSplit cX0_noteSplit 2 none, Cond.methodLink RX0 82 yX0_endBeyond, Cond.static yX0_endBeyond, Cond.code yX0_endBeyond cX0_endBeyond 4 (some .int), Cond.methodLink RX0 92 yX2_beyond, Cond.instanceMethod yX2_beyond, Cond.selects RX2 yX2_beyond yX2_beyond, Cond.initialized RX2, Cond.code yX2_beyond cX2_beyond 5 (some .int), Cond.fieldLink RX2 15 "MirrorShares$Room" "columns" "I", Cond.fieldLink RX2 19 "MirrorShares$Room" "rows" "I", Cond.methodLink RX0 55 yX0_endOf]
def wsX0_findSplits_r2 : List Cond := [Cond.static yX0_endOf, Cond.code yX0_endOf cX0_endOf 8 (some .int), Cond.methodLink RX0 85 yX2_kindAt, Cond.instanceMethod yX2_kindAt, Cond.selects RX2 yX2_kindAt yX2_kindAt, Cond.code yX2_kindAt cX2_kindAt 2 (some .int), Cond.fieldLink RX2 9 "MirrorShares$Room" "kinds" "[I", Cond.methodLink RX2 35 yX2_cells, Cond.instanceMethod yX2_cells, Cond.selects RX2 yX2_cells yX2_cells, Cond.code yX2_cells cX2_cells 1 (some .int), Cond.static yX5_isHalf, Cond.initialized RX5, Cond.code yX5_isHalf cX5_isHalf 1 (some .boolean), Cond.static yX5_turnedBy, Cond.code yX5_turnedBy cX5_turnedBy 3 (some .int), Cond.static yX5_letsOn, Cond.code yX5_letsOn cX5_letsOn 1 (some .boolean), Cond.methodLink RX5 209 yX5_isHalf, Cond.static yX5_turnsBeam, Cond.code yX5_turnsBeam cX5_turnsBeam 1 (some .boolean)]
def wsX0_findSplits : List Cond := .code yX0_findSplits cX0_findSplits 6 none :: ((wsX0_findSplits_r1 ++ wsX0_findSplits_r2) ++ wsX00 ++ wsX20)
def wsJ7_fill_d0a16 : List Cond := .code yJ7_fill_d0a16 cJ7_fill_d0a16 5 none :: ([])
def wsX0_setRows : List Cond := .code yX0_setRows cX0_setRows 4 none :: ([.fieldLink RX0 30 "MirrorShares$Beam" "splits" "I", .fieldLink RX0 23 "MirrorShares$Beam" "rows" "[[J", .constantLong RX0 108 (2), .fieldLink RX0 18 "MirrorShares$Beam" "rayEnd" "[I", .fieldLink RX0 15 "MirrorShares$Beam" "splitNumber" "[I", .methodLink RX0 105 yJ7_fill_d0a16, .static yJ7_fill_d0a16, .initialized RJ7, .code yJ7_fill_d0a16 cJ7_fill_d0a16 5 none] ++ wsX00)
def wsX0_clearColumn : List Cond := .code yX0_clearColumn cX0_clearColumn 7 none :: ([.fieldLink RX0 30 "MirrorShares$Beam" "splits" "I", .fieldLink RX0 34 "MirrorShares$Beam" "whole" "J"] ++ wsX00)
def wsX0_solveRows : List Cond := .code yX0_solveRows cX0_solveRows 5 none :: ([.fieldLink RX0 34 "MirrorShares$Beam" "whole" "J", .fieldLink RX0 30 "MirrorShares$Beam" "splits" "I", .fieldLink RX0 23 "MirrorShares$Beam" "rows" "[[J", .methodLink RX0 110 yX0_clearColumn, .instanceMethod yX0_clearColumn, .selects RX0 yX0_clearColumn yX0_clearColumn, .initialized RX0, .code yX0_clearColumn cX0_clearColumn 7 none] ++ wsX00)
def wsX0_addPart : List Cond := .code yX0_addPart cX0_addPart 4 none :: ([.fieldLink RX0 26 "MirrorShares$Beam" "parts" "[J"] ++ wsX00)
def wsX0_addParts : List Cond := .code yX0_addParts cX0_addParts 3 none :: ([.fieldLink RX0 26 "MirrorShares$Beam" "parts" "[J", .fieldLink RX0 34 "MirrorShares$Beam" "whole" "J", .fieldLink RX0 30 "MirrorShares$Beam" "splits" "I", .fieldLink RX0 18 "MirrorShares$Beam" "rayEnd" "[I", .fieldLink RX0 23 "MirrorShares$Beam" "rows" "[[J", .methodLink RX0 105 yJ7_fill_d0a16, .static yJ7_fill_d0a16, .initialized RJ7, .code yJ7_fill_d0a16 cJ7_fill_d0a16 5 none, .methodLink RX0 114 yX0_addPart, .instanceMethod yX0_addPart, .selects RX0 yX0_addPart yX0_addPart, .initialized RX0, .code yX0_addPart cX0_addPart 4 none] ++ wsX00)
def wsX0_shine_r1 : List Cond := [Cond.methodLink RX0 46 yX2_portCell, Cond.instanceMethod yX2_portCell, Cond.selects RX2 yX2_portCell yX2_portCell, Cond.initialized RX2, Cond.code yX2_portCell cX2_portCell 2 (some .int), Cond.fieldLink RX2 15 "MirrorShares$Room" "columns" "I", Cond.fieldLink RX2 19 "MirrorShares$Room" "rows" "I", Cond.methodLink RX2 46 yX2_portDirection, Cond.instanceMethod yX2_portDirection, Cond.selects RX2 yX2_portDirection yX2_portDirection, Cond.code yX2_portDirection cX2_portDirection 2 (some .int), Cond.methodLink RX0 52 yX2_portDirection, Cond.methodLink RX0 55 yX0_endOf, Cond.static yX0_endOf, Cond.initialized RX0, Cond.code yX0_endOf cX0_endOf 8 (some .int), Cond.methodLink RX0 85 yX2_kindAt, Cond.instanceMethod yX2_kindAt, Cond.selects RX2 yX2_kindAt yX2_kindAt, Cond.code yX2_kindAt cX2_kindAt 2 (some .int), Cond.fieldLink RX2 9 "MirrorShares$Room" "kinds" "[I", Cond.methodLink RX2 35 yX2_cells, Cond.instanceMethod yX2_cells, Cond.selects RX2 yX2_cells yX2_cells]
def wsX0_shine_r2 : List Cond := [Cond.code yX2_cells cX2_cells 1 (some .int), Cond.static yX5_isHalf, Cond.initialized RX5, Cond.code yX5_isHalf cX5_isHalf 1 (some .boolean), Cond.static yX5_turnedBy, Cond.code yX5_turnedBy cX5_turnedBy 3 (some .int), Cond.static yX5_letsOn, Cond.code yX5_letsOn cX5_letsOn 1 (some .boolean), Cond.methodLink RX5 209 yX5_isHalf, Cond.static yX5_turnsBeam, Cond.code yX5_turnsBeam cX5_turnsBeam 1 (some .boolean), Cond.methodLink RX0 92 yX2_beyond, Cond.instanceMethod yX2_beyond, Cond.selects RX2 yX2_beyond yX2_beyond, Cond.code yX2_beyond cX2_beyond 5 (some .int), Cond.methodLink RX0 59 yX0_findSplits, Cond.instanceMethod yX0_findSplits, Cond.selects RX0 yX0_findSplits yX0_findSplits, Cond.code yX0_findSplits cX0_findSplits 6 none, Cond.fieldLink RX0 15 "MirrorShares$Beam" "splitNumber" "[I", Cond.fieldLink RX0 30 "MirrorShares$Beam" "splits" "I", Cond.fieldLink RX0 11 "MirrorShares$Beam" "splitPlace" "[I", Cond.fieldLink RX0 18 "MirrorShares$Beam" "rayEnd" "[I", Cond.methodLink RX0 73 yJ7_fill_53178]
def wsX0_shine_r3 : List Cond := [Cond.static yJ7_fill_53178, Cond.initialized RJ7, Cond.code yJ7_fill_53178 cJ7_fill_53178 4 none, Cond.methodLink RX0 79 yX0_noteSplit, Cond.instanceMethod yX0_noteSplit, Cond.selects RX0 yX0_noteSplit yX0_noteSplit, Cond.code yX0_noteSplit cX0_noteSplit 2 none, Cond.methodLink RX0 82 yX0_endBeyond, Cond.static yX0_endBeyond, Cond.code yX0_endBeyond cX0_endBeyond 4 (some .int), Cond.methodLink RX0 63 yX0_setRows, Cond.instanceMethod yX0_setRows, Cond.selects RX0 yX0_setRows yX0_setRows, Cond.code yX0_setRows cX0_setRows 4 none, Cond.fieldLink RX0 23 "MirrorShares$Beam" "rows" "[[J", Cond.constantLong RX0 108 (2), Cond.methodLink RX0 105 yJ7_fill_d0a16, Cond.static yJ7_fill_d0a16, Cond.code yJ7_fill_d0a16 cJ7_fill_d0a16 5 none, Cond.methodLink RX0 66 yX0_solveRows, Cond.instanceMethod yX0_solveRows, Cond.selects RX0 yX0_solveRows yX0_solveRows, Cond.code yX0_solveRows cX0_solveRows 5 none, Cond.fieldLink RX0 34 "MirrorShares$Beam" "whole" "J"]
def wsX0_shine_r4 : List Cond := [Cond.methodLink RX0 110 yX0_clearColumn, Cond.instanceMethod yX0_clearColumn, Cond.selects RX0 yX0_clearColumn yX0_clearColumn, Cond.code yX0_clearColumn cX0_clearColumn 7 none, Cond.methodLink RX0 69 yX0_addParts, Cond.instanceMethod yX0_addParts, Cond.selects RX0 yX0_addParts yX0_addParts, Cond.code yX0_addParts cX0_addParts 3 none, Cond.fieldLink RX0 26 "MirrorShares$Beam" "parts" "[J", Cond.methodLink RX0 114 yX0_addPart, Cond.instanceMethod yX0_addPart, Cond.selects RX0 yX0_addPart yX0_addPart, Cond.code yX0_addPart cX0_addPart 4 none]
def wsX0_shine : List Cond := .code yX0_shine cX0_shine 4 none :: ((wsX0_shine_r1 ++ (wsX0_shine_r2 ++ (wsX0_shine_r3 ++ wsX0_shine_r4))) ++ wsX20 ++ wsX00)
def wsX1_init : List Cond := .code yX1_init cX1_init 1 none :: ([.methodLink RX1 3 objectInit, .instanceMethod objectInit, .code objectInit ⟨#[0xb1]⟩ 1 none, .arrayClass .int, .fieldLink RX1 9 "MirrorShares$Past" "changes" "[I", .fieldLink RX1 15 "MirrorShares$Past" "size" "I"] ++ wsX10)
def wsX1_cellOf : List Cond := .code yX1_cellOf cX1_cellOf 1 (some .int) :: ([])
def wsX1_kindOf : List Cond := .code yX1_kindOf cX1_kindOf 1 (some .int) :: ([])
def wsX1_remember : List Cond := .code yX1_remember cX1_remember 2 none :: ([.fieldLink RX1 15 "MirrorShares$Past" "size" "I", .fieldLink RX1 9 "MirrorShares$Past" "changes" "[I", .methodLink RX1 23 arraycopyName, .native arraycopyName, .static arraycopyName, .initialized "java/lang/System"] ++ wsX10)
def wsX1_rememberKind : List Cond := .code yX1_rememberKind cX1_rememberKind 3 none :: ([.methodLink RX1 19 yX1_remember, .instanceMethod yX1_remember, .selects RX1 yX1_remember yX1_remember, .initialized RX1, .code yX1_remember cX1_remember 2 none, .fieldLink RX1 15 "MirrorShares$Past" "size" "I", .fieldLink RX1 9 "MirrorShares$Past" "changes" "[I", .methodLink RX1 23 arraycopyName, .native arraycopyName, .static arraycopyName, .initialized "java/lang/System"] ++ wsX10)
def wsX1_rememberTurn : List Cond := .code yX1_rememberTurn cX1_rememberTurn 1 none :: ([.methodLink RX1 19 yX1_remember, .instanceMethod yX1_remember, .selects RX1 yX1_remember yX1_remember, .initialized RX1, .code yX1_remember cX1_remember 2 none, .fieldLink RX1 15 "MirrorShares$Past" "size" "I", .fieldLink RX1 9 "MirrorShares$Past" "changes" "[I", .methodLink RX1 23 arraycopyName, .native arraycopyName, .static arraycopyName, .initialized "java/lang/System"] ++ wsX10)
def wsX1_takeLatest : List Cond := .code yX1_takeLatest cX1_takeLatest 1 (some .int) :: ([.fieldLink RX1 15 "MirrorShares$Past" "size" "I", .fieldLink RX1 9 "MirrorShares$Past" "changes" "[I"] ++ wsX10)
def wsX1_forget : List Cond := .code yX1_forget cX1_forget 1 none :: ([.fieldLink RX1 15 "MirrorShares$Past" "size" "I"] ++ wsX10)
def wsX2_init : List Cond := .code yX2_init cX2_init 1 none :: ([.methodLink RX2 3 objectInit, .instanceMethod objectInit, .code objectInit ⟨#[0xb1]⟩ 1 none, .arrayClass .int, .fieldLink RX2 9 "MirrorShares$Room" "kinds" "[I", .fieldLink RX2 15 "MirrorShares$Room" "columns" "I", .fieldLink RX2 19 "MirrorShares$Room" "rows" "I", .methodLink RX2 25 arraycopyName, .native arraycopyName, .static arraycopyName, .initialized "java/lang/System"] ++ wsX20)
def wsX2_ports : List Cond := .code yX2_ports cX2_ports 1 (some .int) :: ([.fieldLink RX2 15 "MirrorShares$Room" "columns" "I", .fieldLink RX2 19 "MirrorShares$Room" "rows" "I"] ++ wsX20)
def wsX2_hasPort : List Cond := .code yX2_hasPort cX2_hasPort 2 (some .boolean) :: ([.methodLink RX2 31 yX2_ports, .instanceMethod yX2_ports, .selects RX2 yX2_ports yX2_ports, .initialized RX2, .code yX2_ports cX2_ports 1 (some .int), .fieldLink RX2 15 "MirrorShares$Room" "columns" "I", .fieldLink RX2 19 "MirrorShares$Room" "rows" "I"] ++ wsX20)
def wsX2_tell : List Cond := .code yX2_tell cX2_tell 3 none :: ([.fieldLink RX2 9 "MirrorShares$Room" "kinds" "[I", .methodLink RX2 35 yX2_cells, .instanceMethod yX2_cells, .selects RX2 yX2_cells yX2_cells, .initialized RX2, .code yX2_cells cX2_cells 1 (some .int), .fieldLink RX2 15 "MirrorShares$Room" "columns" "I", .fieldLink RX2 19 "MirrorShares$Room" "rows" "I"] ++ wsX20)
def wsX2_countKinds : List Cond := .code yX2_countKinds cX2_countKinds 6 (some .int) :: ([.methodLink RX2 35 yX2_cells, .instanceMethod yX2_cells, .selects RX2 yX2_cells yX2_cells, .initialized RX2, .code yX2_cells cX2_cells 1 (some .int), .fieldLink RX2 15 "MirrorShares$Room" "columns" "I", .fieldLink RX2 19 "MirrorShares$Room" "rows" "I", .methodLink RX2 38 yX2_kindAt, .instanceMethod yX2_kindAt, .selects RX2 yX2_kindAt yX2_kindAt, .code yX2_kindAt cX2_kindAt 2 (some .int), .fieldLink RX2 9 "MirrorShares$Room" "kinds" "[I"] ++ wsX20)
def wsX2_isOverfull : List Cond := .code yX2_isOverfull cX2_isOverfull 1 (some .boolean) :: ([.methodLink RX2 42 yX2_countKinds, .instanceMethod yX2_countKinds, .selects RX2 yX2_countKinds yX2_countKinds, .initialized RX2, .code yX2_countKinds cX2_countKinds 6 (some .int), .methodLink RX2 35 yX2_cells, .instanceMethod yX2_cells, .selects RX2 yX2_cells yX2_cells, .code yX2_cells cX2_cells 1 (some .int), .fieldLink RX2 15 "MirrorShares$Room" "columns" "I", .fieldLink RX2 19 "MirrorShares$Room" "rows" "I", .methodLink RX2 38 yX2_kindAt, .instanceMethod yX2_kindAt, .selects RX2 yX2_kindAt yX2_kindAt, .code yX2_kindAt cX2_kindAt 2 (some .int), .fieldLink RX2 9 "MirrorShares$Room" "kinds" "[I"] ++ wsX20)
def wsX2_doorCell : List Cond := .code yX2_doorCell cX2_doorCell 4 (some .int) :: ([.methodLink RX2 35 yX2_cells, .instanceMethod yX2_cells, .selects RX2 yX2_cells yX2_cells, .initialized RX2, .code yX2_cells cX2_cells 1 (some .int), .fieldLink RX2 15 "MirrorShares$Room" "columns" "I", .fieldLink RX2 19 "MirrorShares$Room" "rows" "I", .methodLink RX2 38 yX2_kindAt, .instanceMethod yX2_kindAt, .selects RX2 yX2_kindAt yX2_kindAt, .code yX2_kindAt cX2_kindAt 2 (some .int), .fieldLink RX2 9 "MirrorShares$Room" "kinds" "[I"] ++ wsX20)
def wsX2_become : List Cond := .code yX2_become cX2_become 2 none :: ([.fieldLink RX2 15 "MirrorShares$Room" "columns" "I", .fieldLink RX2 19 "MirrorShares$Room" "rows" "I", .fieldLink RX2 9 "MirrorShares$Room" "kinds" "[I", .methodLink RX2 25 arraycopyName, .native arraycopyName, .static arraycopyName, .initialized "java/lang/System"] ++ wsX20)
def wsX2_turnedKind : List Cond := .code yX2_turnedKind cX2_turnedKind 1 (some .int) :: ([])
def wsX2_becomeTurned : List Cond := .code yX2_becomeTurned cX2_becomeTurned 5 none :: ([.fieldLink RX2 19 "MirrorShares$Room" "rows" "I", .fieldLink RX2 15 "MirrorShares$Room" "columns" "I", .methodLink RX2 38 yX2_kindAt, .instanceMethod yX2_kindAt, .selects RX2 yX2_kindAt yX2_kindAt, .initialized RX2, .code yX2_kindAt cX2_kindAt 2 (some .int), .fieldLink RX2 9 "MirrorShares$Room" "kinds" "[I", .methodLink RX2 35 yX2_cells, .instanceMethod yX2_cells, .selects RX2 yX2_cells yX2_cells, .code yX2_cells cX2_cells 1 (some .int), .methodLink RX2 49 yX2_turnedKind, .static yX2_turnedKind, .code yX2_turnedKind cX2_turnedKind 1 (some .int), .methodLink RX2 52 yX2_tell, .instanceMethod yX2_tell, .selects RX2 yX2_tell yX2_tell, .code yX2_tell cX2_tell 3 none] ++ wsX20)
def wsX2_empty : List Cond := .code yX2_empty cX2_empty 1 none :: ([.fieldLink RX2 15 "MirrorShares$Room" "columns" "I", .fieldLink RX2 19 "MirrorShares$Room" "rows" "I"] ++ wsX20)
def wsX2_addRow : List Cond := .code yX2_addRow cX2_addRow 4 (some .boolean) :: ([.fieldLink RX2 19 "MirrorShares$Room" "rows" "I", .fieldLink RX2 15 "MirrorShares$Room" "columns" "I", .methodLink RX2 52 yX2_tell, .instanceMethod yX2_tell, .selects RX2 yX2_tell yX2_tell, .initialized RX2, .code yX2_tell cX2_tell 3 none, .fieldLink RX2 9 "MirrorShares$Room" "kinds" "[I", .methodLink RX2 35 yX2_cells, .instanceMethod yX2_cells, .selects RX2 yX2_cells yX2_cells, .code yX2_cells cX2_cells 1 (some .int)] ++ wsX20)
def wsX3_init : List Cond := .code yX3_init cX3_init 1 none :: ([.methodLink RX3 3 objectInit, .instanceMethod objectInit, .code objectInit ⟨#[0xb1]⟩ 1 none, .arrayClass .int, .fieldLink RX3 9 "MirrorShares$Told" "letters" "[I", .fieldLink RX3 15 "MirrorShares$Told" "length" "I"] ++ wsX30)
def wsX3_append : List Cond := .code yX3_append cX3_append 2 (some .int) :: ([.fieldLink RX3 15 "MirrorShares$Told" "length" "I", .fieldLink RX3 9 "MirrorShares$Told" "letters" "[I"] ++ wsX30)
def wsX3_clear : List Cond := .code yX3_clear cX3_clear 2 (some .int) :: ([.fieldLink RX3 15 "MirrorShares$Told" "length" "I"] ++ wsX30)
def wsX3_letterAt : List Cond := .code yX3_letterAt cX3_letterAt 2 (some .int) :: ([.fieldLink RX3 15 "MirrorShares$Told" "length" "I", .fieldLink RX3 9 "MirrorShares$Told" "letters" "[I"] ++ wsX30)
def wsX3_endOfItem : List Cond := .code yX3_endOfItem cX3_endOfItem 3 (some .int) :: ([.fieldLink RX3 15 "MirrorShares$Told" "length" "I", .methodLink RX3 32 yX3_letterAt, .instanceMethod yX3_letterAt, .selects RX3 yX3_letterAt yX3_letterAt, .initialized RX3, .code yX3_letterAt cX3_letterAt 2 (some .int), .fieldLink RX3 9 "MirrorShares$Told" "letters" "[I"] ++ wsX30)
def wsJ0_isLatin1_aae02 : List Cond := .code yJ0_isLatin1_aae02 cJ0_isLatin1_aae02 1 (some .boolean) :: ([.fieldLink RJ0 38 "java/lang/String" "COMPACT_STRINGS" "Z", .fieldLink RJ0 15 "java/lang/String" "coder" "B"])
def wsJ0_coder_7d493 : List Cond := .code yJ0_coder_7d493 cJ0_coder_7d493 1 (some .byte) :: ([.fieldLink RJ0 38 "java/lang/String" "COMPACT_STRINGS" "Z", .fieldLink RJ0 15 "java/lang/String" "coder" "B"])
def wsJ0_length_8abf5 : List Cond := .code yJ0_length_8abf5 cJ0_length_8abf5 1 (some .int) :: ([.fieldLink RJ0 9 "java/lang/String" "value" "[B", .methodLink RJ0 335 yJ0_coder_7d493, .instanceMethod yJ0_coder_7d493, .selects RJ0 yJ0_coder_7d493 yJ0_coder_7d493, .initialized RJ0, .code yJ0_coder_7d493 cJ0_coder_7d493 1 (some .byte), .fieldLink RJ0 38 "java/lang/String" "COMPACT_STRINGS" "Z", .fieldLink RJ0 15 "java/lang/String" "coder" "B"])
def wsJ1_canEncode_9a6ad : List Cond := .code yJ1_canEncode_9a6ad cJ1_canEncode_9a6ad 1 (some .boolean) :: ([])
def wsJ1_indexOfChar_4cfef : List Cond := .code yJ1_indexOfChar_4cfef cJ1_indexOfChar_4cfef 6 (some .int) :: ([])
def wsJ1_indexOf_4cfef : List Cond := .code yJ1_indexOf_4cfef cJ1_indexOf_4cfef 4 (some .int) :: ([.methodLink RJ1 92 Lib.Math.max.name, .static Lib.Math.max.name, .initialized "java/lang/Math", .code Lib.Math.max.name Lib.Math.max.code 2 (some .int), .methodLink RJ1 38 Lib.Math.min.name, .static Lib.Math.min.name, .code Lib.Math.min.name Lib.Math.min.code 2 (some .int), .methodLink RJ1 88 yJ1_canEncode_9a6ad, .static yJ1_canEncode_9a6ad, .initialized RJ1, .code yJ1_canEncode_9a6ad cJ1_canEncode_9a6ad 1 (some .boolean), .methodLink RJ1 95 yJ1_indexOfChar_4cfef, .static yJ1_indexOfChar_4cfef, .code yJ1_indexOfChar_4cfef cJ1_indexOfChar_4cfef 6 (some .int)])
def wsJ2_length_9d52b : List Cond := .code yJ2_length_9d52b cJ2_length_9d52b 1 (some .int) :: ([])
def wsJ3_checkFromToIndex_8c36e : List Cond := .code yJ3_checkFromToIndex_8c36e cJ3_checkFromToIndex_8c36e 4 (some .int) :: ([])
def wsJ0_checkBoundsBeginEnd_23922 : List Cond := .code yJ0_checkBoundsBeginEnd_23922 cJ0_checkBoundsBeginEnd_23922 3 none :: ([.fieldLink RJ0 1053 "jdk/internal/util/Preconditions" "SIOOBE_FORMATTER" "Ljava/util/function/BiFunction;", .methodLink RJ0 1062 yJ3_checkFromToIndex_8c36e, .static yJ3_checkFromToIndex_8c36e, .initialized RJ3, .code yJ3_checkFromToIndex_8c36e cJ3_checkFromToIndex_8c36e 4 (some .int)])
def wsJ2_checkBoundsBeginEnd_d044e : List Cond := .code yJ2_checkBoundsBeginEnd_d044e cJ2_checkBoundsBeginEnd_d044e 3 none :: ([.methodLink RJ2 48 yJ2_length_9d52b, .static yJ2_length_9d52b, .initialized RJ2, .code yJ2_length_9d52b cJ2_length_9d52b 1 (some .int), .methodLink RJ2 241 yJ0_checkBoundsBeginEnd_23922, .static yJ0_checkBoundsBeginEnd_23922, .initialized RJ0, .code yJ0_checkBoundsBeginEnd_23922 cJ0_checkBoundsBeginEnd_23922 3 none, .fieldLink RJ0 1053 "jdk/internal/util/Preconditions" "SIOOBE_FORMATTER" "Ljava/util/function/BiFunction;", .methodLink RJ0 1062 yJ3_checkFromToIndex_8c36e, .static yJ3_checkFromToIndex_8c36e, .initialized RJ3, .code yJ3_checkFromToIndex_8c36e cJ3_checkFromToIndex_8c36e 4 (some .int)])
def wsJ2_getChar_3b067 : List Cond := .code yJ2_getChar_3b067 cJ2_getChar_3b067 2 (some .char) :: ([.fieldLink RJ2 44 "java/lang/StringUTF16" "$assertionsDisabled" "Z", .fieldLink RJ2 59 "java/lang/StringUTF16" "HI_BYTE_SHIFT" "I", .fieldLink RJ2 63 "java/lang/StringUTF16" "LO_BYTE_SHIFT" "I", .methodLink RJ2 48 yJ2_length_9d52b, .static yJ2_length_9d52b, .initialized RJ2, .code yJ2_length_9d52b cJ2_length_9d52b 1 (some .int)])
def wsJ2_indexOfCharUnsafe_4cfef : List Cond := .code yJ2_indexOfCharUnsafe_4cfef cJ2_indexOfCharUnsafe_4cfef 5 (some .int) :: ([.methodLink RJ2 71 yJ2_getChar_3b067, .static yJ2_getChar_3b067, .initialized RJ2, .code yJ2_getChar_3b067 cJ2_getChar_3b067 2 (some .char), .fieldLink RJ2 44 "java/lang/StringUTF16" "$assertionsDisabled" "Z", .fieldLink RJ2 59 "java/lang/StringUTF16" "HI_BYTE_SHIFT" "I", .fieldLink RJ2 63 "java/lang/StringUTF16" "LO_BYTE_SHIFT" "I", .methodLink RJ2 48 yJ2_length_9d52b, .static yJ2_length_9d52b, .code yJ2_length_9d52b cJ2_length_9d52b 1 (some .int)])
def wsJ2_indexOfChar_4cfef_r1 : List Cond := [Cond.methodLink RJ2 96 yJ2_checkBoundsBeginEnd_d044e, Cond.static yJ2_checkBoundsBeginEnd_d044e, Cond.initialized RJ2, Cond.code yJ2_checkBoundsBeginEnd_d044e cJ2_checkBoundsBeginEnd_d044e 3 none, Cond.methodLink RJ2 48 yJ2_length_9d52b, Cond.static yJ2_length_9d52b, Cond.code yJ2_length_9d52b cJ2_length_9d52b 1 (some .int), Cond.methodLink RJ2 241 yJ0_checkBoundsBeginEnd_23922, Cond.static yJ0_checkBoundsBeginEnd_23922, Cond.initialized RJ0, Cond.code yJ0_checkBoundsBeginEnd_23922 cJ0_checkBoundsBeginEnd_23922 3 none, Cond.fieldLink RJ0 1053 "jdk/internal/util/Preconditions" "SIOOBE_FORMATTER" "Ljava/util/function/BiFunction;", Cond.methodLink RJ0 1062 yJ3_checkFromToIndex_8c36e, Cond.static yJ3_checkFromToIndex_8c36e, Cond.initialized RJ3, Cond.code yJ3_checkFromToIndex_8c36e cJ3_checkFromToIndex_8c36e 4 (some .int), Cond.methodLink RJ2 244 yJ2_indexOfCharUnsafe_4cfef, Cond.static yJ2_indexOfCharUnsafe_4cfef, Cond.code yJ2_indexOfCharUnsafe_4cfef cJ2_indexOfCharUnsafe_4cfef 5 (some .int), Cond.methodLink RJ2 71 yJ2_getChar_3b067, Cond.static yJ2_getChar_3b067, Cond.code yJ2_getChar_3b067 cJ2_getChar_3b067 2 (some .char), Cond.fieldLink RJ2 44 "java/lang/StringUTF16" "$assertionsDisabled" "Z", Cond.fieldLink RJ2 59 "java/lang/StringUTF16" "HI_BYTE_SHIFT" "I"]
def wsJ2_indexOfChar_4cfef_r2 : List Cond := [Cond.fieldLink RJ2 63 "java/lang/StringUTF16" "LO_BYTE_SHIFT" "I"]
def wsJ2_indexOfChar_4cfef : List Cond := .code yJ2_indexOfChar_4cfef cJ2_indexOfChar_4cfef 4 (some .int) :: ((wsJ2_indexOfChar_4cfef_r1 ++ wsJ2_indexOfChar_4cfef_r2))
def wsJ11_isValidCodePoint_9a6ad : List Cond := .code yJ11_isValidCodePoint_9a6ad cJ11_isValidCodePoint_9a6ad 2 (some .boolean) :: ([])
def wsJ11_highSurrogate_5068e : List Cond := .code yJ11_highSurrogate_5068e cJ11_highSurrogate_5068e 1 (some .char) :: ([.constant RJ11 110 (55232)])
def wsJ11_lowSurrogate_5068e : List Cond := .code yJ11_lowSurrogate_5068e cJ11_lowSurrogate_5068e 1 (some .char) :: ([.constant RJ11 76 (56320)])
def wsJ2_indexOfSupplementary_4cfef_r1 : List Cond := [Cond.methodLink RJ2 164 yJ11_isValidCodePoint_9a6ad, Cond.static yJ11_isValidCodePoint_9a6ad, Cond.initialized RJ11, Cond.code yJ11_isValidCodePoint_9a6ad cJ11_isValidCodePoint_9a6ad 2 (some .boolean), Cond.methodLink RJ2 157 yJ11_highSurrogate_5068e, Cond.static yJ11_highSurrogate_5068e, Cond.code yJ11_highSurrogate_5068e cJ11_highSurrogate_5068e 1 (some .char), Cond.constant RJ11 110 (55232), Cond.methodLink RJ2 161 yJ11_lowSurrogate_5068e, Cond.static yJ11_lowSurrogate_5068e, Cond.code yJ11_lowSurrogate_5068e cJ11_lowSurrogate_5068e 1 (some .char), Cond.constant RJ11 76 (56320), Cond.methodLink RJ2 96 yJ2_checkBoundsBeginEnd_d044e, Cond.static yJ2_checkBoundsBeginEnd_d044e, Cond.initialized RJ2, Cond.code yJ2_checkBoundsBeginEnd_d044e cJ2_checkBoundsBeginEnd_d044e 3 none, Cond.methodLink RJ2 48 yJ2_length_9d52b, Cond.static yJ2_length_9d52b, Cond.code yJ2_length_9d52b cJ2_length_9d52b 1 (some .int), Cond.methodLink RJ2 241 yJ0_checkBoundsBeginEnd_23922, Cond.static yJ0_checkBoundsBeginEnd_23922, Cond.initialized RJ0, Cond.code yJ0_checkBoundsBeginEnd_23922 cJ0_checkBoundsBeginEnd_23922 3 none, Cond.fieldLink RJ0 1053 "jdk/internal/util/Preconditions" "SIOOBE_FORMATTER" "Ljava/util/function/BiFunction;"]
def wsJ2_indexOfSupplementary_4cfef_r2 : List Cond := [Cond.methodLink RJ0 1062 yJ3_checkFromToIndex_8c36e, Cond.static yJ3_checkFromToIndex_8c36e, Cond.initialized RJ3, Cond.code yJ3_checkFromToIndex_8c36e cJ3_checkFromToIndex_8c36e 4 (some .int), Cond.methodLink RJ2 71 yJ2_getChar_3b067, Cond.static yJ2_getChar_3b067, Cond.code yJ2_getChar_3b067 cJ2_getChar_3b067 2 (some .char), Cond.fieldLink RJ2 44 "java/lang/StringUTF16" "$assertionsDisabled" "Z", Cond.fieldLink RJ2 59 "java/lang/StringUTF16" "HI_BYTE_SHIFT" "I", Cond.fieldLink RJ2 63 "java/lang/StringUTF16" "LO_BYTE_SHIFT" "I"]
def wsJ2_indexOfSupplementary_4cfef : List Cond := .code yJ2_indexOfSupplementary_4cfef cJ2_indexOfSupplementary_4cfef 7 (some .int) :: ((wsJ2_indexOfSupplementary_4cfef_r1 ++ wsJ2_indexOfSupplementary_4cfef_r2))
def wsJ2_indexOf_4cfef_r1 : List Cond := [Cond.methodLink RJ2 224 Lib.Math.max.name, Cond.static Lib.Math.max.name, Cond.initialized "java/lang/Math", Cond.code Lib.Math.max.name Lib.Math.max.code 2 (some .int), Cond.methodLink RJ2 183 Lib.Math.min.name, Cond.static Lib.Math.min.name, Cond.code Lib.Math.min.name Lib.Math.min.code 2 (some .int), Cond.constant RJ2 227 (65536), Cond.methodLink RJ2 228 yJ2_indexOfChar_4cfef, Cond.static yJ2_indexOfChar_4cfef, Cond.initialized RJ2, Cond.code yJ2_indexOfChar_4cfef cJ2_indexOfChar_4cfef 4 (some .int), Cond.methodLink RJ2 96 yJ2_checkBoundsBeginEnd_d044e, Cond.static yJ2_checkBoundsBeginEnd_d044e, Cond.code yJ2_checkBoundsBeginEnd_d044e cJ2_checkBoundsBeginEnd_d044e 3 none, Cond.methodLink RJ2 48 yJ2_length_9d52b, Cond.static yJ2_length_9d52b, Cond.code yJ2_length_9d52b cJ2_length_9d52b 1 (some .int), Cond.methodLink RJ2 241 yJ0_checkBoundsBeginEnd_23922, Cond.static yJ0_checkBoundsBeginEnd_23922, Cond.initialized RJ0, Cond.code yJ0_checkBoundsBeginEnd_23922 cJ0_checkBoundsBeginEnd_23922 3 none, Cond.fieldLink RJ0 1053 "jdk/internal/util/Preconditions" "SIOOBE_FORMATTER" "Ljava/util/function/BiFunction;", Cond.methodLink RJ0 1062 yJ3_checkFromToIndex_8c36e]
def wsJ2_indexOf_4cfef_r2 : List Cond := [Cond.static yJ3_checkFromToIndex_8c36e, Cond.initialized RJ3, Cond.code yJ3_checkFromToIndex_8c36e cJ3_checkFromToIndex_8c36e 4 (some .int), Cond.methodLink RJ2 244 yJ2_indexOfCharUnsafe_4cfef, Cond.static yJ2_indexOfCharUnsafe_4cfef, Cond.code yJ2_indexOfCharUnsafe_4cfef cJ2_indexOfCharUnsafe_4cfef 5 (some .int), Cond.methodLink RJ2 71 yJ2_getChar_3b067, Cond.static yJ2_getChar_3b067, Cond.code yJ2_getChar_3b067 cJ2_getChar_3b067 2 (some .char), Cond.fieldLink RJ2 44 "java/lang/StringUTF16" "$assertionsDisabled" "Z", Cond.fieldLink RJ2 59 "java/lang/StringUTF16" "HI_BYTE_SHIFT" "I", Cond.fieldLink RJ2 63 "java/lang/StringUTF16" "LO_BYTE_SHIFT" "I", Cond.methodLink RJ2 232 yJ2_indexOfSupplementary_4cfef, Cond.static yJ2_indexOfSupplementary_4cfef, Cond.code yJ2_indexOfSupplementary_4cfef cJ2_indexOfSupplementary_4cfef 7 (some .int), Cond.methodLink RJ2 164 yJ11_isValidCodePoint_9a6ad, Cond.static yJ11_isValidCodePoint_9a6ad, Cond.initialized RJ11, Cond.code yJ11_isValidCodePoint_9a6ad cJ11_isValidCodePoint_9a6ad 2 (some .boolean), Cond.methodLink RJ2 157 yJ11_highSurrogate_5068e, Cond.static yJ11_highSurrogate_5068e, Cond.code yJ11_highSurrogate_5068e cJ11_highSurrogate_5068e 1 (some .char), Cond.constant RJ11 110 (55232), Cond.methodLink RJ2 161 yJ11_lowSurrogate_5068e]
def wsJ2_indexOf_4cfef_r3 : List Cond := [Cond.static yJ11_lowSurrogate_5068e, Cond.code yJ11_lowSurrogate_5068e cJ11_lowSurrogate_5068e 1 (some .char), Cond.constant RJ11 76 (56320)]
def wsJ2_indexOf_4cfef : List Cond := .code yJ2_indexOf_4cfef cJ2_indexOf_4cfef 4 (some .int) :: ((wsJ2_indexOf_4cfef_r1 ++ (wsJ2_indexOf_4cfef_r2 ++ wsJ2_indexOf_4cfef_r3)))
def wsJ0_indexOf_7cf53_r1 : List Cond := [Cond.fieldLink RJ0 9 "java/lang/String" "value" "[B", Cond.methodLink RJ0 492 yJ0_isLatin1_aae02, Cond.instanceMethod yJ0_isLatin1_aae02, Cond.selects RJ0 yJ0_isLatin1_aae02 yJ0_isLatin1_aae02, Cond.initialized RJ0, Cond.code yJ0_isLatin1_aae02 cJ0_isLatin1_aae02 1 (some .boolean), Cond.fieldLink RJ0 38 "java/lang/String" "COMPACT_STRINGS" "Z", Cond.fieldLink RJ0 15 "java/lang/String" "coder" "B", Cond.methodLink RJ0 505 yJ0_length_8abf5, Cond.instanceMethod yJ0_length_8abf5, Cond.selects RJ0 yJ0_length_8abf5 yJ0_length_8abf5, Cond.code yJ0_length_8abf5 cJ0_length_8abf5 1 (some .int), Cond.methodLink RJ0 335 yJ0_coder_7d493, Cond.instanceMethod yJ0_coder_7d493, Cond.selects RJ0 yJ0_coder_7d493 yJ0_coder_7d493, Cond.code yJ0_coder_7d493 cJ0_coder_7d493 1 (some .byte), Cond.methodLink RJ0 637 yJ1_indexOf_4cfef, Cond.static yJ1_indexOf_4cfef, Cond.initialized RJ1, Cond.code yJ1_indexOf_4cfef cJ1_indexOf_4cfef 4 (some .int), Cond.methodLink RJ1 92 Lib.Math.max.name, Cond.static Lib.Math.max.name, Cond.initialized "java/lang/Math", Cond.code Lib.Math.max.name Lib.Math.max.code 2 (some .int)]
def wsJ0_indexOf_7cf53_r2 : List Cond := [Cond.methodLink RJ1 38 Lib.Math.min.name, Cond.static Lib.Math.min.name, Cond.code Lib.Math.min.name Lib.Math.min.code 2 (some .int), Cond.methodLink RJ1 88 yJ1_canEncode_9a6ad, Cond.static yJ1_canEncode_9a6ad, Cond.code yJ1_canEncode_9a6ad cJ1_canEncode_9a6ad 1 (some .boolean), Cond.methodLink RJ1 95 yJ1_indexOfChar_4cfef, Cond.static yJ1_indexOfChar_4cfef, Cond.code yJ1_indexOfChar_4cfef cJ1_indexOfChar_4cfef 6 (some .int), Cond.methodLink RJ0 640 yJ2_indexOf_4cfef, Cond.static yJ2_indexOf_4cfef, Cond.initialized RJ2, Cond.code yJ2_indexOf_4cfef cJ2_indexOf_4cfef 4 (some .int), Cond.methodLink RJ2 224 Lib.Math.max.name, Cond.methodLink RJ2 183 Lib.Math.min.name, Cond.constant RJ2 227 (65536), Cond.methodLink RJ2 228 yJ2_indexOfChar_4cfef, Cond.static yJ2_indexOfChar_4cfef, Cond.code yJ2_indexOfChar_4cfef cJ2_indexOfChar_4cfef 4 (some .int), Cond.methodLink RJ2 96 yJ2_checkBoundsBeginEnd_d044e, Cond.static yJ2_checkBoundsBeginEnd_d044e, Cond.code yJ2_checkBoundsBeginEnd_d044e cJ2_checkBoundsBeginEnd_d044e 3 none, Cond.methodLink RJ2 48 yJ2_length_9d52b, Cond.static yJ2_length_9d52b]
def wsJ0_indexOf_7cf53_r3 : List Cond := [Cond.code yJ2_length_9d52b cJ2_length_9d52b 1 (some .int), Cond.methodLink RJ2 241 yJ0_checkBoundsBeginEnd_23922, Cond.static yJ0_checkBoundsBeginEnd_23922, Cond.code yJ0_checkBoundsBeginEnd_23922 cJ0_checkBoundsBeginEnd_23922 3 none, Cond.fieldLink RJ0 1053 "jdk/internal/util/Preconditions" "SIOOBE_FORMATTER" "Ljava/util/function/BiFunction;", Cond.methodLink RJ0 1062 yJ3_checkFromToIndex_8c36e, Cond.static yJ3_checkFromToIndex_8c36e, Cond.initialized RJ3, Cond.code yJ3_checkFromToIndex_8c36e cJ3_checkFromToIndex_8c36e 4 (some .int), Cond.methodLink RJ2 244 yJ2_indexOfCharUnsafe_4cfef, Cond.static yJ2_indexOfCharUnsafe_4cfef, Cond.code yJ2_indexOfCharUnsafe_4cfef cJ2_indexOfCharUnsafe_4cfef 5 (some .int), Cond.methodLink RJ2 71 yJ2_getChar_3b067, Cond.static yJ2_getChar_3b067, Cond.code yJ2_getChar_3b067 cJ2_getChar_3b067 2 (some .char), Cond.fieldLink RJ2 44 "java/lang/StringUTF16" "$assertionsDisabled" "Z", Cond.fieldLink RJ2 59 "java/lang/StringUTF16" "HI_BYTE_SHIFT" "I", Cond.fieldLink RJ2 63 "java/lang/StringUTF16" "LO_BYTE_SHIFT" "I", Cond.methodLink RJ2 232 yJ2_indexOfSupplementary_4cfef, Cond.static yJ2_indexOfSupplementary_4cfef, Cond.code yJ2_indexOfSupplementary_4cfef cJ2_indexOfSupplementary_4cfef 7 (some .int), Cond.methodLink RJ2 164 yJ11_isValidCodePoint_9a6ad, Cond.static yJ11_isValidCodePoint_9a6ad, Cond.initialized RJ11]
def wsJ0_indexOf_7cf53_r4 : List Cond := [Cond.code yJ11_isValidCodePoint_9a6ad cJ11_isValidCodePoint_9a6ad 2 (some .boolean), Cond.methodLink RJ2 157 yJ11_highSurrogate_5068e, Cond.static yJ11_highSurrogate_5068e, Cond.code yJ11_highSurrogate_5068e cJ11_highSurrogate_5068e 1 (some .char), Cond.constant RJ11 110 (55232), Cond.methodLink RJ2 161 yJ11_lowSurrogate_5068e, Cond.static yJ11_lowSurrogate_5068e, Cond.code yJ11_lowSurrogate_5068e cJ11_lowSurrogate_5068e 1 (some .char), Cond.constant RJ11 76 (56320)]
def wsJ0_indexOf_7cf53 : List Cond := .code yJ0_indexOf_7cf53 cJ0_indexOf_7cf53 3 (some .int) :: ((wsJ0_indexOf_7cf53_r1 ++ (wsJ0_indexOf_7cf53_r2 ++ (wsJ0_indexOf_7cf53_r3 ++ wsJ0_indexOf_7cf53_r4))))
def wsJ0_indexOf_0f7a4_r1 : List Cond := [Cond.methodLink RJ0 633 yJ0_indexOf_7cf53, Cond.instanceMethod yJ0_indexOf_7cf53, Cond.selects RJ0 yJ0_indexOf_7cf53 yJ0_indexOf_7cf53, Cond.initialized RJ0, Cond.code yJ0_indexOf_7cf53 cJ0_indexOf_7cf53 3 (some .int), Cond.fieldLink RJ0 9 "java/lang/String" "value" "[B", Cond.methodLink RJ0 492 yJ0_isLatin1_aae02, Cond.instanceMethod yJ0_isLatin1_aae02, Cond.selects RJ0 yJ0_isLatin1_aae02 yJ0_isLatin1_aae02, Cond.code yJ0_isLatin1_aae02 cJ0_isLatin1_aae02 1 (some .boolean), Cond.fieldLink RJ0 38 "java/lang/String" "COMPACT_STRINGS" "Z", Cond.fieldLink RJ0 15 "java/lang/String" "coder" "B", Cond.methodLink RJ0 505 yJ0_length_8abf5, Cond.instanceMethod yJ0_length_8abf5, Cond.selects RJ0 yJ0_length_8abf5 yJ0_length_8abf5, Cond.code yJ0_length_8abf5 cJ0_length_8abf5 1 (some .int), Cond.methodLink RJ0 335 yJ0_coder_7d493, Cond.instanceMethod yJ0_coder_7d493, Cond.selects RJ0 yJ0_coder_7d493 yJ0_coder_7d493, Cond.code yJ0_coder_7d493 cJ0_coder_7d493 1 (some .byte), Cond.methodLink RJ0 637 yJ1_indexOf_4cfef, Cond.static yJ1_indexOf_4cfef, Cond.initialized RJ1, Cond.code yJ1_indexOf_4cfef cJ1_indexOf_4cfef 4 (some .int)]
def wsJ0_indexOf_0f7a4_r2 : List Cond := [Cond.methodLink RJ1 92 Lib.Math.max.name, Cond.static Lib.Math.max.name, Cond.initialized "java/lang/Math", Cond.code Lib.Math.max.name Lib.Math.max.code 2 (some .int), Cond.methodLink RJ1 38 Lib.Math.min.name, Cond.static Lib.Math.min.name, Cond.code Lib.Math.min.name Lib.Math.min.code 2 (some .int), Cond.methodLink RJ1 88 yJ1_canEncode_9a6ad, Cond.static yJ1_canEncode_9a6ad, Cond.code yJ1_canEncode_9a6ad cJ1_canEncode_9a6ad 1 (some .boolean), Cond.methodLink RJ1 95 yJ1_indexOfChar_4cfef, Cond.static yJ1_indexOfChar_4cfef, Cond.code yJ1_indexOfChar_4cfef cJ1_indexOfChar_4cfef 6 (some .int), Cond.methodLink RJ0 640 yJ2_indexOf_4cfef, Cond.static yJ2_indexOf_4cfef, Cond.initialized RJ2, Cond.code yJ2_indexOf_4cfef cJ2_indexOf_4cfef 4 (some .int), Cond.methodLink RJ2 224 Lib.Math.max.name, Cond.methodLink RJ2 183 Lib.Math.min.name, Cond.constant RJ2 227 (65536), Cond.methodLink RJ2 228 yJ2_indexOfChar_4cfef, Cond.static yJ2_indexOfChar_4cfef, Cond.code yJ2_indexOfChar_4cfef cJ2_indexOfChar_4cfef 4 (some .int), Cond.methodLink RJ2 96 yJ2_checkBoundsBeginEnd_d044e]
def wsJ0_indexOf_0f7a4_r3 : List Cond := [Cond.static yJ2_checkBoundsBeginEnd_d044e, Cond.code yJ2_checkBoundsBeginEnd_d044e cJ2_checkBoundsBeginEnd_d044e 3 none, Cond.methodLink RJ2 48 yJ2_length_9d52b, Cond.static yJ2_length_9d52b, Cond.code yJ2_length_9d52b cJ2_length_9d52b 1 (some .int), Cond.methodLink RJ2 241 yJ0_checkBoundsBeginEnd_23922, Cond.static yJ0_checkBoundsBeginEnd_23922, Cond.code yJ0_checkBoundsBeginEnd_23922 cJ0_checkBoundsBeginEnd_23922 3 none, Cond.fieldLink RJ0 1053 "jdk/internal/util/Preconditions" "SIOOBE_FORMATTER" "Ljava/util/function/BiFunction;", Cond.methodLink RJ0 1062 yJ3_checkFromToIndex_8c36e, Cond.static yJ3_checkFromToIndex_8c36e, Cond.initialized RJ3, Cond.code yJ3_checkFromToIndex_8c36e cJ3_checkFromToIndex_8c36e 4 (some .int), Cond.methodLink RJ2 244 yJ2_indexOfCharUnsafe_4cfef, Cond.static yJ2_indexOfCharUnsafe_4cfef, Cond.code yJ2_indexOfCharUnsafe_4cfef cJ2_indexOfCharUnsafe_4cfef 5 (some .int), Cond.methodLink RJ2 71 yJ2_getChar_3b067, Cond.static yJ2_getChar_3b067, Cond.code yJ2_getChar_3b067 cJ2_getChar_3b067 2 (some .char), Cond.fieldLink RJ2 44 "java/lang/StringUTF16" "$assertionsDisabled" "Z", Cond.fieldLink RJ2 59 "java/lang/StringUTF16" "HI_BYTE_SHIFT" "I", Cond.fieldLink RJ2 63 "java/lang/StringUTF16" "LO_BYTE_SHIFT" "I", Cond.methodLink RJ2 232 yJ2_indexOfSupplementary_4cfef, Cond.static yJ2_indexOfSupplementary_4cfef]
def wsJ0_indexOf_0f7a4_r4 : List Cond := [Cond.code yJ2_indexOfSupplementary_4cfef cJ2_indexOfSupplementary_4cfef 7 (some .int), Cond.methodLink RJ2 164 yJ11_isValidCodePoint_9a6ad, Cond.static yJ11_isValidCodePoint_9a6ad, Cond.initialized RJ11, Cond.code yJ11_isValidCodePoint_9a6ad cJ11_isValidCodePoint_9a6ad 2 (some .boolean), Cond.methodLink RJ2 157 yJ11_highSurrogate_5068e, Cond.static yJ11_highSurrogate_5068e, Cond.code yJ11_highSurrogate_5068e cJ11_highSurrogate_5068e 1 (some .char), Cond.constant RJ11 110 (55232), Cond.methodLink RJ2 161 yJ11_lowSurrogate_5068e, Cond.static yJ11_lowSurrogate_5068e, Cond.code yJ11_lowSurrogate_5068e cJ11_lowSurrogate_5068e 1 (some .char), Cond.constant RJ11 76 (56320)]
def wsJ0_indexOf_0f7a4 : List Cond := .code yJ0_indexOf_0f7a4 cJ0_indexOf_0f7a4 2 (some .int) :: ((wsJ0_indexOf_0f7a4_r1 ++ (wsJ0_indexOf_0f7a4_r2 ++ (wsJ0_indexOf_0f7a4_r3 ++ wsJ0_indexOf_0f7a4_r4))))
def wsX3_readRow_r1 : List Cond := [Cond.fieldLink RX3 15 "MirrorShares$Told" "length" "I", Cond.methodLink RX3 32 yX3_letterAt, Cond.instanceMethod yX3_letterAt, Cond.selects RX3 yX3_letterAt yX3_letterAt, Cond.initialized RX3, Cond.code yX3_letterAt cX3_letterAt 2 (some .int), Cond.fieldLink RX3 9 "MirrorShares$Told" "letters" "[I", Cond.methodLink RX3 35 yX2_addRow, Cond.instanceMethod yX2_addRow, Cond.selects RX2 yX2_addRow yX2_addRow, Cond.initialized RX2, Cond.code yX2_addRow cX2_addRow 4 (some .boolean), Cond.fieldLink RX2 19 "MirrorShares$Room" "rows" "I", Cond.fieldLink RX2 15 "MirrorShares$Room" "columns" "I", Cond.methodLink RX2 52 yX2_tell, Cond.instanceMethod yX2_tell, Cond.selects RX2 yX2_tell yX2_tell, Cond.code yX2_tell cX2_tell 3 none, Cond.fieldLink RX2 9 "MirrorShares$Room" "kinds" "[I", Cond.methodLink RX2 35 yX2_cells, Cond.instanceMethod yX2_cells, Cond.selects RX2 yX2_cells yX2_cells, Cond.code yX2_cells cX2_cells 1 (some .int), Cond.methodLink RX3 39 yX2_cells]
def wsX3_readRow_r2 : List Cond := [Cond.methodLink RX3 45 yJ0_indexOf_0f7a4, Cond.instanceMethod yJ0_indexOf_0f7a4, Cond.selects RJ0 yJ0_indexOf_0f7a4 yJ0_indexOf_0f7a4, Cond.initialized RJ0, Cond.code yJ0_indexOf_0f7a4 cJ0_indexOf_0f7a4 2 (some .int), Cond.methodLink RJ0 633 yJ0_indexOf_7cf53, Cond.instanceMethod yJ0_indexOf_7cf53, Cond.selects RJ0 yJ0_indexOf_7cf53 yJ0_indexOf_7cf53, Cond.code yJ0_indexOf_7cf53 cJ0_indexOf_7cf53 3 (some .int), Cond.fieldLink RJ0 9 "java/lang/String" "value" "[B", Cond.methodLink RJ0 492 yJ0_isLatin1_aae02, Cond.instanceMethod yJ0_isLatin1_aae02, Cond.selects RJ0 yJ0_isLatin1_aae02 yJ0_isLatin1_aae02, Cond.code yJ0_isLatin1_aae02 cJ0_isLatin1_aae02 1 (some .boolean), Cond.fieldLink RJ0 38 "java/lang/String" "COMPACT_STRINGS" "Z", Cond.fieldLink RJ0 15 "java/lang/String" "coder" "B", Cond.methodLink RJ0 505 yJ0_length_8abf5, Cond.instanceMethod yJ0_length_8abf5, Cond.selects RJ0 yJ0_length_8abf5 yJ0_length_8abf5, Cond.code yJ0_length_8abf5 cJ0_length_8abf5 1 (some .int), Cond.methodLink RJ0 335 yJ0_coder_7d493, Cond.instanceMethod yJ0_coder_7d493, Cond.selects RJ0 yJ0_coder_7d493 yJ0_coder_7d493, Cond.code yJ0_coder_7d493 cJ0_coder_7d493 1 (some .byte)]
def wsX3_readRow_r3 : List Cond := [Cond.methodLink RJ0 637 yJ1_indexOf_4cfef, Cond.static yJ1_indexOf_4cfef, Cond.initialized RJ1, Cond.code yJ1_indexOf_4cfef cJ1_indexOf_4cfef 4 (some .int), Cond.methodLink RJ1 92 Lib.Math.max.name, Cond.static Lib.Math.max.name, Cond.initialized "java/lang/Math", Cond.code Lib.Math.max.name Lib.Math.max.code 2 (some .int), Cond.methodLink RJ1 38 Lib.Math.min.name, Cond.static Lib.Math.min.name, Cond.code Lib.Math.min.name Lib.Math.min.code 2 (some .int), Cond.methodLink RJ1 88 yJ1_canEncode_9a6ad, Cond.static yJ1_canEncode_9a6ad, Cond.code yJ1_canEncode_9a6ad cJ1_canEncode_9a6ad 1 (some .boolean), Cond.methodLink RJ1 95 yJ1_indexOfChar_4cfef, Cond.static yJ1_indexOfChar_4cfef, Cond.code yJ1_indexOfChar_4cfef cJ1_indexOfChar_4cfef 6 (some .int), Cond.methodLink RJ0 640 yJ2_indexOf_4cfef, Cond.static yJ2_indexOf_4cfef, Cond.initialized RJ2, Cond.code yJ2_indexOf_4cfef cJ2_indexOf_4cfef 4 (some .int), Cond.methodLink RJ2 224 Lib.Math.max.name, Cond.methodLink RJ2 183 Lib.Math.min.name, Cond.constant RJ2 227 (65536)]
def wsX3_readRow_r4 : List Cond := [Cond.methodLink RJ2 228 yJ2_indexOfChar_4cfef, Cond.static yJ2_indexOfChar_4cfef, Cond.code yJ2_indexOfChar_4cfef cJ2_indexOfChar_4cfef 4 (some .int), Cond.methodLink RJ2 96 yJ2_checkBoundsBeginEnd_d044e, Cond.static yJ2_checkBoundsBeginEnd_d044e, Cond.code yJ2_checkBoundsBeginEnd_d044e cJ2_checkBoundsBeginEnd_d044e 3 none, Cond.methodLink RJ2 48 yJ2_length_9d52b, Cond.static yJ2_length_9d52b, Cond.code yJ2_length_9d52b cJ2_length_9d52b 1 (some .int), Cond.methodLink RJ2 241 yJ0_checkBoundsBeginEnd_23922, Cond.static yJ0_checkBoundsBeginEnd_23922, Cond.code yJ0_checkBoundsBeginEnd_23922 cJ0_checkBoundsBeginEnd_23922 3 none, Cond.fieldLink RJ0 1053 "jdk/internal/util/Preconditions" "SIOOBE_FORMATTER" "Ljava/util/function/BiFunction;", Cond.methodLink RJ0 1062 yJ3_checkFromToIndex_8c36e, Cond.static yJ3_checkFromToIndex_8c36e, Cond.initialized RJ3, Cond.code yJ3_checkFromToIndex_8c36e cJ3_checkFromToIndex_8c36e 4 (some .int), Cond.methodLink RJ2 244 yJ2_indexOfCharUnsafe_4cfef, Cond.static yJ2_indexOfCharUnsafe_4cfef, Cond.code yJ2_indexOfCharUnsafe_4cfef cJ2_indexOfCharUnsafe_4cfef 5 (some .int), Cond.methodLink RJ2 71 yJ2_getChar_3b067, Cond.static yJ2_getChar_3b067, Cond.code yJ2_getChar_3b067 cJ2_getChar_3b067 2 (some .char), Cond.fieldLink RJ2 44 "java/lang/StringUTF16" "$assertionsDisabled" "Z"]
def wsX3_readRow_r5 : List Cond := [Cond.fieldLink RJ2 59 "java/lang/StringUTF16" "HI_BYTE_SHIFT" "I", Cond.fieldLink RJ2 63 "java/lang/StringUTF16" "LO_BYTE_SHIFT" "I", Cond.methodLink RJ2 232 yJ2_indexOfSupplementary_4cfef, Cond.static yJ2_indexOfSupplementary_4cfef, Cond.code yJ2_indexOfSupplementary_4cfef cJ2_indexOfSupplementary_4cfef 7 (some .int), Cond.methodLink RJ2 164 yJ11_isValidCodePoint_9a6ad, Cond.static yJ11_isValidCodePoint_9a6ad, Cond.initialized RJ11, Cond.code yJ11_isValidCodePoint_9a6ad cJ11_isValidCodePoint_9a6ad 2 (some .boolean), Cond.methodLink RJ2 157 yJ11_highSurrogate_5068e, Cond.static yJ11_highSurrogate_5068e, Cond.code yJ11_highSurrogate_5068e cJ11_highSurrogate_5068e 1 (some .char), Cond.constant RJ11 110 (55232), Cond.methodLink RJ2 161 yJ11_lowSurrogate_5068e, Cond.static yJ11_lowSurrogate_5068e, Cond.code yJ11_lowSurrogate_5068e cJ11_lowSurrogate_5068e 1 (some .char), Cond.constant RJ11 76 (56320), Cond.methodLink RX3 50 yX2_tell, Cond.methodLink RX3 54 yX2_isOverfull, Cond.instanceMethod yX2_isOverfull, Cond.selects RX2 yX2_isOverfull yX2_isOverfull, Cond.code yX2_isOverfull cX2_isOverfull 1 (some .boolean), Cond.methodLink RX2 42 yX2_countKinds, Cond.instanceMethod yX2_countKinds]
def wsX3_readRow_r6 : List Cond := [Cond.selects RX2 yX2_countKinds yX2_countKinds, Cond.code yX2_countKinds cX2_countKinds 6 (some .int), Cond.methodLink RX2 38 yX2_kindAt, Cond.instanceMethod yX2_kindAt, Cond.selects RX2 yX2_kindAt yX2_kindAt, Cond.code yX2_kindAt cX2_kindAt 2 (some .int)]
def wsX3_readRow : List Cond := .code yX3_readRow cX3_readRow 8 (some .boolean) :: ((wsX3_readRow_r1 ++ (wsX3_readRow_r2 ++ (wsX3_readRow_r3 ++ (wsX3_readRow_r4 ++ (wsX3_readRow_r5 ++ wsX3_readRow_r6))))) ++ wsX30 ++ wsX20)
def wsX3_readInto_r1 : List Cond := [Cond.fieldLink RX3 15 "MirrorShares$Told" "length" "I", Cond.methodLink RX3 19 yX2_empty, Cond.instanceMethod yX2_empty, Cond.selects RX2 yX2_empty yX2_empty, Cond.initialized RX2, Cond.code yX2_empty cX2_empty 1 none, Cond.fieldLink RX2 15 "MirrorShares$Room" "columns" "I", Cond.fieldLink RX2 19 "MirrorShares$Room" "rows" "I", Cond.methodLink RX3 24 yX3_endOfItem, Cond.instanceMethod yX3_endOfItem, Cond.selects RX3 yX3_endOfItem yX3_endOfItem, Cond.initialized RX3, Cond.code yX3_endOfItem cX3_endOfItem 3 (some .int), Cond.methodLink RX3 32 yX3_letterAt, Cond.instanceMethod yX3_letterAt, Cond.selects RX3 yX3_letterAt yX3_letterAt, Cond.code yX3_letterAt cX3_letterAt 2 (some .int), Cond.fieldLink RX3 9 "MirrorShares$Told" "letters" "[I", Cond.methodLink RX3 28 yX3_readRow, Cond.instanceMethod yX3_readRow, Cond.selects RX3 yX3_readRow yX3_readRow, Cond.code yX3_readRow cX3_readRow 8 (some .boolean), Cond.methodLink RX3 35 yX2_addRow, Cond.instanceMethod yX2_addRow]
def wsX3_readInto_r2 : List Cond := [Cond.selects RX2 yX2_addRow yX2_addRow, Cond.code yX2_addRow cX2_addRow 4 (some .boolean), Cond.methodLink RX2 52 yX2_tell, Cond.instanceMethod yX2_tell, Cond.selects RX2 yX2_tell yX2_tell, Cond.code yX2_tell cX2_tell 3 none, Cond.fieldLink RX2 9 "MirrorShares$Room" "kinds" "[I", Cond.methodLink RX2 35 yX2_cells, Cond.instanceMethod yX2_cells, Cond.selects RX2 yX2_cells yX2_cells, Cond.code yX2_cells cX2_cells 1 (some .int), Cond.methodLink RX3 39 yX2_cells, Cond.methodLink RX3 45 yJ0_indexOf_0f7a4, Cond.instanceMethod yJ0_indexOf_0f7a4, Cond.selects RJ0 yJ0_indexOf_0f7a4 yJ0_indexOf_0f7a4, Cond.initialized RJ0, Cond.code yJ0_indexOf_0f7a4 cJ0_indexOf_0f7a4 2 (some .int), Cond.methodLink RJ0 633 yJ0_indexOf_7cf53, Cond.instanceMethod yJ0_indexOf_7cf53, Cond.selects RJ0 yJ0_indexOf_7cf53 yJ0_indexOf_7cf53, Cond.code yJ0_indexOf_7cf53 cJ0_indexOf_7cf53 3 (some .int), Cond.fieldLink RJ0 9 "java/lang/String" "value" "[B", Cond.methodLink RJ0 492 yJ0_isLatin1_aae02, Cond.instanceMethod yJ0_isLatin1_aae02]
def wsX3_readInto_r3 : List Cond := [Cond.selects RJ0 yJ0_isLatin1_aae02 yJ0_isLatin1_aae02, Cond.code yJ0_isLatin1_aae02 cJ0_isLatin1_aae02 1 (some .boolean), Cond.fieldLink RJ0 38 "java/lang/String" "COMPACT_STRINGS" "Z", Cond.fieldLink RJ0 15 "java/lang/String" "coder" "B", Cond.methodLink RJ0 505 yJ0_length_8abf5, Cond.instanceMethod yJ0_length_8abf5, Cond.selects RJ0 yJ0_length_8abf5 yJ0_length_8abf5, Cond.code yJ0_length_8abf5 cJ0_length_8abf5 1 (some .int), Cond.methodLink RJ0 335 yJ0_coder_7d493, Cond.instanceMethod yJ0_coder_7d493, Cond.selects RJ0 yJ0_coder_7d493 yJ0_coder_7d493, Cond.code yJ0_coder_7d493 cJ0_coder_7d493 1 (some .byte), Cond.methodLink RJ0 637 yJ1_indexOf_4cfef, Cond.static yJ1_indexOf_4cfef, Cond.initialized RJ1, Cond.code yJ1_indexOf_4cfef cJ1_indexOf_4cfef 4 (some .int), Cond.methodLink RJ1 92 Lib.Math.max.name, Cond.static Lib.Math.max.name, Cond.initialized "java/lang/Math", Cond.code Lib.Math.max.name Lib.Math.max.code 2 (some .int), Cond.methodLink RJ1 38 Lib.Math.min.name, Cond.static Lib.Math.min.name, Cond.code Lib.Math.min.name Lib.Math.min.code 2 (some .int), Cond.methodLink RJ1 88 yJ1_canEncode_9a6ad]
def wsX3_readInto_r4 : List Cond := [Cond.static yJ1_canEncode_9a6ad, Cond.code yJ1_canEncode_9a6ad cJ1_canEncode_9a6ad 1 (some .boolean), Cond.methodLink RJ1 95 yJ1_indexOfChar_4cfef, Cond.static yJ1_indexOfChar_4cfef, Cond.code yJ1_indexOfChar_4cfef cJ1_indexOfChar_4cfef 6 (some .int), Cond.methodLink RJ0 640 yJ2_indexOf_4cfef, Cond.static yJ2_indexOf_4cfef, Cond.initialized RJ2, Cond.code yJ2_indexOf_4cfef cJ2_indexOf_4cfef 4 (some .int), Cond.methodLink RJ2 224 Lib.Math.max.name, Cond.methodLink RJ2 183 Lib.Math.min.name, Cond.constant RJ2 227 (65536), Cond.methodLink RJ2 228 yJ2_indexOfChar_4cfef, Cond.static yJ2_indexOfChar_4cfef, Cond.code yJ2_indexOfChar_4cfef cJ2_indexOfChar_4cfef 4 (some .int), Cond.methodLink RJ2 96 yJ2_checkBoundsBeginEnd_d044e, Cond.static yJ2_checkBoundsBeginEnd_d044e, Cond.code yJ2_checkBoundsBeginEnd_d044e cJ2_checkBoundsBeginEnd_d044e 3 none, Cond.methodLink RJ2 48 yJ2_length_9d52b, Cond.static yJ2_length_9d52b, Cond.code yJ2_length_9d52b cJ2_length_9d52b 1 (some .int), Cond.methodLink RJ2 241 yJ0_checkBoundsBeginEnd_23922, Cond.static yJ0_checkBoundsBeginEnd_23922, Cond.code yJ0_checkBoundsBeginEnd_23922 cJ0_checkBoundsBeginEnd_23922 3 none]
def wsX3_readInto_r5 : List Cond := [Cond.fieldLink RJ0 1053 "jdk/internal/util/Preconditions" "SIOOBE_FORMATTER" "Ljava/util/function/BiFunction;", Cond.methodLink RJ0 1062 yJ3_checkFromToIndex_8c36e, Cond.static yJ3_checkFromToIndex_8c36e, Cond.initialized RJ3, Cond.code yJ3_checkFromToIndex_8c36e cJ3_checkFromToIndex_8c36e 4 (some .int), Cond.methodLink RJ2 244 yJ2_indexOfCharUnsafe_4cfef, Cond.static yJ2_indexOfCharUnsafe_4cfef, Cond.code yJ2_indexOfCharUnsafe_4cfef cJ2_indexOfCharUnsafe_4cfef 5 (some .int), Cond.methodLink RJ2 71 yJ2_getChar_3b067, Cond.static yJ2_getChar_3b067, Cond.code yJ2_getChar_3b067 cJ2_getChar_3b067 2 (some .char), Cond.fieldLink RJ2 44 "java/lang/StringUTF16" "$assertionsDisabled" "Z", Cond.fieldLink RJ2 59 "java/lang/StringUTF16" "HI_BYTE_SHIFT" "I", Cond.fieldLink RJ2 63 "java/lang/StringUTF16" "LO_BYTE_SHIFT" "I", Cond.methodLink RJ2 232 yJ2_indexOfSupplementary_4cfef, Cond.static yJ2_indexOfSupplementary_4cfef, Cond.code yJ2_indexOfSupplementary_4cfef cJ2_indexOfSupplementary_4cfef 7 (some .int), Cond.methodLink RJ2 164 yJ11_isValidCodePoint_9a6ad, Cond.static yJ11_isValidCodePoint_9a6ad, Cond.initialized RJ11, Cond.code yJ11_isValidCodePoint_9a6ad cJ11_isValidCodePoint_9a6ad 2 (some .boolean), Cond.methodLink RJ2 157 yJ11_highSurrogate_5068e, Cond.static yJ11_highSurrogate_5068e, Cond.code yJ11_highSurrogate_5068e cJ11_highSurrogate_5068e 1 (some .char)]
def wsX3_readInto_r6 : List Cond := [Cond.constant RJ11 110 (55232), Cond.methodLink RJ2 161 yJ11_lowSurrogate_5068e, Cond.static yJ11_lowSurrogate_5068e, Cond.code yJ11_lowSurrogate_5068e cJ11_lowSurrogate_5068e 1 (some .char), Cond.constant RJ11 76 (56320), Cond.methodLink RX3 50 yX2_tell, Cond.methodLink RX3 54 yX2_isOverfull, Cond.instanceMethod yX2_isOverfull, Cond.selects RX2 yX2_isOverfull yX2_isOverfull, Cond.code yX2_isOverfull cX2_isOverfull 1 (some .boolean), Cond.methodLink RX2 42 yX2_countKinds, Cond.instanceMethod yX2_countKinds, Cond.selects RX2 yX2_countKinds yX2_countKinds, Cond.code yX2_countKinds cX2_countKinds 6 (some .int), Cond.methodLink RX2 38 yX2_kindAt, Cond.instanceMethod yX2_kindAt, Cond.selects RX2 yX2_kindAt yX2_kindAt, Cond.code yX2_kindAt cX2_kindAt 2 (some .int)]
def wsX3_readInto : List Cond := .code yX3_readInto cX3_readInto 5 (some .int) :: ((wsX3_readInto_r1 ++ (wsX3_readInto_r2 ++ (wsX3_readInto_r3 ++ (wsX3_readInto_r4 ++ (wsX3_readInto_r5 ++ wsX3_readInto_r6))))) ++ wsX30 ++ wsX20)
def wsX4_init : List Cond := .code yX4_init cX4_init 1 none :: ([.methodLink RX4 3 objectInit, .instanceMethod objectInit, .code objectInit ⟨#[0xb1]⟩ 1 none, .arrayClass .int, .fieldLink RX4 11 "MirrorShares$Walk" "queue" "[I", .fieldLink RX4 15 "MirrorShares$Walk" "cellsTo" "[I", .fieldLink RX4 18 "MirrorShares$Walk" "cellsToPort" "[I", .fieldLink RX4 21 "MirrorShares$Walk" "waiting" "I", .fieldLink RX4 25 "MirrorShares$Walk" "litCells" "I"] ++ wsX40)
def wsX4_enter : List Cond := .code yX4_enter cX4_enter 5 none :: ([.fieldLink RX4 21 "MirrorShares$Walk" "waiting" "I", .fieldLink RX4 15 "MirrorShares$Walk" "cellsTo" "[I", .fieldLink RX4 11 "MirrorShares$Walk" "queue" "[I", .fieldLink RX4 25 "MirrorShares$Walk" "litCells" "I"] ++ wsX40)
def wsX4_reach : List Cond := .code yX4_reach cX4_reach 3 none :: ([.fieldLink RX4 18 "MirrorShares$Walk" "cellsToPort" "[I"] ++ wsX40)
def wsX4_leave : List Cond := .code yX4_leave cX4_leave 6 none :: ([.methodLink RX4 69 yX2_beyond, .instanceMethod yX2_beyond, .selects RX2 yX2_beyond yX2_beyond, .initialized RX2, .code yX2_beyond cX2_beyond 5 (some .int), .fieldLink RX2 15 "MirrorShares$Room" "columns" "I", .fieldLink RX2 19 "MirrorShares$Room" "rows" "I", .methodLink RX4 43 yX4_enter, .instanceMethod yX4_enter, .selects RX4 yX4_enter yX4_enter, .initialized RX4, .code yX4_enter cX4_enter 5 none, .fieldLink RX4 21 "MirrorShares$Walk" "waiting" "I", .fieldLink RX4 15 "MirrorShares$Walk" "cellsTo" "[I", .fieldLink RX4 11 "MirrorShares$Walk" "queue" "[I", .fieldLink RX4 25 "MirrorShares$Walk" "litCells" "I", .methodLink RX4 72 yX4_reach, .instanceMethod yX4_reach, .selects RX4 yX4_reach yX4_reach, .code yX4_reach cX4_reach 3 none, .fieldLink RX4 18 "MirrorShares$Walk" "cellsToPort" "[I"] ++ wsX20 ++ wsX40)
def wsX4_spread_r1 : List Cond := [Cond.fieldLink RX4 15 "MirrorShares$Walk" "cellsTo" "[I", Cond.methodLink RX4 51 yX2_kindAt, Cond.instanceMethod yX2_kindAt, Cond.selects RX2 yX2_kindAt yX2_kindAt, Cond.initialized RX2, Cond.code yX2_kindAt cX2_kindAt 2 (some .int), Cond.fieldLink RX2 9 "MirrorShares$Room" "kinds" "[I", Cond.methodLink RX2 35 yX2_cells, Cond.instanceMethod yX2_cells, Cond.selects RX2 yX2_cells yX2_cells, Cond.code yX2_cells cX2_cells 1 (some .int), Cond.fieldLink RX2 15 "MirrorShares$Room" "columns" "I", Cond.fieldLink RX2 19 "MirrorShares$Room" "rows" "I", Cond.static yX5_letsOn, Cond.initialized RX5, Cond.code yX5_letsOn cX5_letsOn 1 (some .boolean), Cond.methodLink RX5 209 yX5_isHalf, Cond.static yX5_isHalf, Cond.code yX5_isHalf cX5_isHalf 1 (some .boolean), Cond.methodLink RX4 58 yX4_leave, Cond.instanceMethod yX4_leave, Cond.selects RX4 yX4_leave yX4_leave, Cond.initialized RX4, Cond.code yX4_leave cX4_leave 6 none]
def wsX4_spread_r2 : List Cond := [Cond.methodLink RX4 69 yX2_beyond, Cond.instanceMethod yX2_beyond, Cond.selects RX2 yX2_beyond yX2_beyond, Cond.code yX2_beyond cX2_beyond 5 (some .int), Cond.methodLink RX4 43 yX4_enter, Cond.instanceMethod yX4_enter, Cond.selects RX4 yX4_enter yX4_enter, Cond.code yX4_enter cX4_enter 5 none, Cond.fieldLink RX4 21 "MirrorShares$Walk" "waiting" "I", Cond.fieldLink RX4 11 "MirrorShares$Walk" "queue" "[I", Cond.fieldLink RX4 25 "MirrorShares$Walk" "litCells" "I", Cond.methodLink RX4 72 yX4_reach, Cond.instanceMethod yX4_reach, Cond.selects RX4 yX4_reach yX4_reach, Cond.code yX4_reach cX4_reach 3 none, Cond.fieldLink RX4 18 "MirrorShares$Walk" "cellsToPort" "[I", Cond.static yX5_turnsBeam, Cond.code yX5_turnsBeam cX5_turnsBeam 1 (some .boolean), Cond.static yX5_turnedBy, Cond.code yX5_turnedBy cX5_turnedBy 3 (some .int)]
def wsX4_spread : List Cond := .code yX4_spread cX4_spread 7 none :: ((wsX4_spread_r1 ++ wsX4_spread_r2) ++ wsX40 ++ wsX20)
def wsX4_goFrom_r1 : List Cond := [Cond.fieldLink RX4 15 "MirrorShares$Walk" "cellsTo" "[I", Cond.fieldLink RX4 18 "MirrorShares$Walk" "cellsToPort" "[I", Cond.fieldLink RX4 21 "MirrorShares$Walk" "waiting" "I", Cond.fieldLink RX4 25 "MirrorShares$Walk" "litCells" "I", Cond.fieldLink RX4 11 "MirrorShares$Walk" "queue" "[I", Cond.methodLink RX4 28 yJ7_fill_53178, Cond.static yJ7_fill_53178, Cond.initialized RJ7, Cond.code yJ7_fill_53178 cJ7_fill_53178 4 none, Cond.methodLink RX4 34 yX2_portCell, Cond.instanceMethod yX2_portCell, Cond.selects RX2 yX2_portCell yX2_portCell, Cond.initialized RX2, Cond.code yX2_portCell cX2_portCell 2 (some .int), Cond.fieldLink RX2 15 "MirrorShares$Room" "columns" "I", Cond.fieldLink RX2 19 "MirrorShares$Room" "rows" "I", Cond.methodLink RX2 46 yX2_portDirection, Cond.instanceMethod yX2_portDirection, Cond.selects RX2 yX2_portDirection yX2_portDirection, Cond.code yX2_portDirection cX2_portDirection 2 (some .int), Cond.methodLink RX4 40 yX2_portDirection, Cond.methodLink RX4 43 yX4_enter, Cond.instanceMethod yX4_enter, Cond.selects RX4 yX4_enter yX4_enter]
def wsX4_goFrom_r2 : List Cond := [Cond.initialized RX4, Cond.code yX4_enter cX4_enter 5 none, Cond.methodLink RX4 47 yX4_spread, Cond.instanceMethod yX4_spread, Cond.selects RX4 yX4_spread yX4_spread, Cond.code yX4_spread cX4_spread 7 none, Cond.methodLink RX4 51 yX2_kindAt, Cond.instanceMethod yX2_kindAt, Cond.selects RX2 yX2_kindAt yX2_kindAt, Cond.code yX2_kindAt cX2_kindAt 2 (some .int), Cond.fieldLink RX2 9 "MirrorShares$Room" "kinds" "[I", Cond.methodLink RX2 35 yX2_cells, Cond.instanceMethod yX2_cells, Cond.selects RX2 yX2_cells yX2_cells, Cond.code yX2_cells cX2_cells 1 (some .int), Cond.static yX5_letsOn, Cond.initialized RX5, Cond.code yX5_letsOn cX5_letsOn 1 (some .boolean), Cond.methodLink RX5 209 yX5_isHalf, Cond.static yX5_isHalf, Cond.code yX5_isHalf cX5_isHalf 1 (some .boolean), Cond.methodLink RX4 58 yX4_leave, Cond.instanceMethod yX4_leave, Cond.selects RX4 yX4_leave yX4_leave]
def wsX4_goFrom_r3 : List Cond := [Cond.code yX4_leave cX4_leave 6 none, Cond.methodLink RX4 69 yX2_beyond, Cond.instanceMethod yX2_beyond, Cond.selects RX2 yX2_beyond yX2_beyond, Cond.code yX2_beyond cX2_beyond 5 (some .int), Cond.methodLink RX4 72 yX4_reach, Cond.instanceMethod yX4_reach, Cond.selects RX4 yX4_reach yX4_reach, Cond.code yX4_reach cX4_reach 3 none, Cond.static yX5_turnsBeam, Cond.code yX5_turnsBeam cX5_turnsBeam 1 (some .boolean), Cond.static yX5_turnedBy, Cond.code yX5_turnedBy cX5_turnedBy 3 (some .int)]
def wsX4_goFrom : List Cond := .code yX4_goFrom cX4_goFrom 4 none :: ((wsX4_goFrom_r1 ++ (wsX4_goFrom_r2 ++ wsX4_goFrom_r3)) ++ wsX40 ++ wsX20)
def wsX4_fewestTo : List Cond := .code yX4_fewestTo cX4_fewestTo 2 (some .int) :: ([.fieldLink RX4 18 "MirrorShares$Walk" "cellsToPort" "[I"] ++ wsX40)
def wsX5_init_r1 : List Cond := [Cond.methodLink RX5 3 objectInit, Cond.instanceMethod objectInit, Cond.code objectInit ⟨#[0xb1]⟩ 1 none, Cond.classLink RX5 9 RX3, Cond.instantiable RX3 2, Cond.initialized RX3, Cond.fieldLink RX5 12 "MirrorShares" "text" "LMirrorShares$Told;", Cond.classLink RX5 16 RX2, Cond.instantiable RX2 3, Cond.initialized RX2, Cond.fieldLink RX5 19 "MirrorShares" "room" "LMirrorShares$Room;", Cond.fieldLink RX5 23 "MirrorShares" "trial" "LMirrorShares$Room;", Cond.classLink RX5 26 RX1, Cond.instantiable RX1 2, Cond.initialized RX1, Cond.fieldLink RX5 29 "MirrorShares" "past" "LMirrorShares$Past;", Cond.classLink RX5 33 RX4, Cond.instantiable RX4 5, Cond.initialized RX4, Cond.fieldLink RX5 36 "MirrorShares" "walk" "LMirrorShares$Walk;", Cond.classLink RX5 40 RX0, Cond.instantiable RX0 7, Cond.initialized RX0, Cond.fieldLink RX5 43 "MirrorShares" "beam" "LMirrorShares$Beam;"]
def wsX5_init_r2 : List Cond := [Cond.instanceMethod yX3_init, Cond.code yX3_init cX3_init 1 none, Cond.methodLink RX3 3 objectInit, Cond.arrayClass .int, Cond.fieldLink RX3 9 "MirrorShares$Told" "letters" "[I", Cond.fieldLink RX3 15 "MirrorShares$Told" "length" "I", Cond.methodLink RX5 18 yX2_init, Cond.instanceMethod yX2_init, Cond.code yX2_init cX2_init 1 none, Cond.methodLink RX2 3 objectInit, Cond.fieldLink RX2 9 "MirrorShares$Room" "kinds" "[I", Cond.fieldLink RX2 15 "MirrorShares$Room" "columns" "I", Cond.fieldLink RX2 19 "MirrorShares$Room" "rows" "I", Cond.methodLink RX2 25 arraycopyName, Cond.native arraycopyName, Cond.static arraycopyName, Cond.initialized "java/lang/System", Cond.instanceMethod yX1_init, Cond.code yX1_init cX1_init 1 none, Cond.methodLink RX1 3 objectInit, Cond.fieldLink RX1 9 "MirrorShares$Past" "changes" "[I", Cond.fieldLink RX1 15 "MirrorShares$Past" "size" "I", Cond.instanceMethod yX4_init, Cond.code yX4_init cX4_init 1 none]
def wsX5_init_r3 : List Cond := [Cond.methodLink RX4 3 objectInit, Cond.fieldLink RX4 11 "MirrorShares$Walk" "queue" "[I", Cond.fieldLink RX4 15 "MirrorShares$Walk" "cellsTo" "[I", Cond.fieldLink RX4 18 "MirrorShares$Walk" "cellsToPort" "[I", Cond.fieldLink RX4 21 "MirrorShares$Walk" "waiting" "I", Cond.fieldLink RX4 25 "MirrorShares$Walk" "litCells" "I", Cond.instanceMethod yX0_init, Cond.code yX0_init cX0_init 1 none, Cond.methodLink RX0 5 objectInit, Cond.fieldLink RX0 11 "MirrorShares$Beam" "splitPlace" "[I", Cond.fieldLink RX0 15 "MirrorShares$Beam" "splitNumber" "[I", Cond.fieldLink RX0 18 "MirrorShares$Beam" "rayEnd" "[I", Cond.classLink RX0 21 "[[J", Cond.arrayClass .long, Cond.fieldLink RX0 23 "MirrorShares$Beam" "rows" "[[J", Cond.fieldLink RX0 26 "MirrorShares$Beam" "parts" "[J", Cond.fieldLink RX0 30 "MirrorShares$Beam" "splits" "I", Cond.fieldLink RX0 34 "MirrorShares$Beam" "whole" "J"]
def wsX5_init : List Cond := .code yX5_init cX5_init 1 none :: ((wsX5_init_r1 ++ (wsX5_init_r2 ++ wsX5_init_r3)) ++ wsX30 ++ wsX50 ++ wsX20 ++ wsX10 ++ wsX40 ++ wsX00)
def wsX5_write : List Cond := .code yX5_write cX5_write 2 (some .int) :: ([.fieldLink RX5 12 "MirrorShares" "text" "LMirrorShares$Told;", .methodLink RX5 47 yX3_append, .instanceMethod yX3_append, .selects RX3 yX3_append yX3_append, .initialized RX3, .code yX3_append cX3_append 2 (some .int), .fieldLink RX3 15 "MirrorShares$Told" "length" "I", .fieldLink RX3 9 "MirrorShares$Told" "letters" "[I"] ++ wsX50 ++ wsX30)
def wsX5_wipe : List Cond := .code yX5_wipe cX5_wipe 1 (some .int) :: ([.fieldLink RX5 12 "MirrorShares" "text" "LMirrorShares$Told;", .methodLink RX5 51 yX3_clear, .instanceMethod yX3_clear, .selects RX3 yX3_clear yX3_clear, .initialized RX3, .code yX3_clear cX3_clear 2 (some .int), .fieldLink RX3 15 "MirrorShares$Told" "length" "I"] ++ wsX50 ++ wsX30)
def wsX5_fault_r1 : List Cond := [Cond.fieldLink RX5 12 "MirrorShares" "text" "LMirrorShares$Told;", Cond.fieldLink RX5 23 "MirrorShares" "trial" "LMirrorShares$Room;", Cond.methodLink RX5 55 yX3_readInto, Cond.instanceMethod yX3_readInto, Cond.selects RX3 yX3_readInto yX3_readInto, Cond.initialized RX3, Cond.code yX3_readInto cX3_readInto 5 (some .int), Cond.fieldLink RX3 15 "MirrorShares$Told" "length" "I", Cond.methodLink RX3 19 yX2_empty, Cond.instanceMethod yX2_empty, Cond.selects RX2 yX2_empty yX2_empty, Cond.initialized RX2, Cond.code yX2_empty cX2_empty 1 none, Cond.fieldLink RX2 15 "MirrorShares$Room" "columns" "I", Cond.fieldLink RX2 19 "MirrorShares$Room" "rows" "I", Cond.methodLink RX3 24 yX3_endOfItem, Cond.instanceMethod yX3_endOfItem, Cond.selects RX3 yX3_endOfItem yX3_endOfItem, Cond.code yX3_endOfItem cX3_endOfItem 3 (some .int), Cond.methodLink RX3 32 yX3_letterAt, Cond.instanceMethod yX3_letterAt, Cond.selects RX3 yX3_letterAt yX3_letterAt, Cond.code yX3_letterAt cX3_letterAt 2 (some .int), Cond.fieldLink RX3 9 "MirrorShares$Told" "letters" "[I"]
def wsX5_fault_r2 : List Cond := [Cond.methodLink RX3 28 yX3_readRow, Cond.instanceMethod yX3_readRow, Cond.selects RX3 yX3_readRow yX3_readRow, Cond.code yX3_readRow cX3_readRow 8 (some .boolean), Cond.methodLink RX3 35 yX2_addRow, Cond.instanceMethod yX2_addRow, Cond.selects RX2 yX2_addRow yX2_addRow, Cond.code yX2_addRow cX2_addRow 4 (some .boolean), Cond.methodLink RX2 52 yX2_tell, Cond.instanceMethod yX2_tell, Cond.selects RX2 yX2_tell yX2_tell, Cond.code yX2_tell cX2_tell 3 none, Cond.fieldLink RX2 9 "MirrorShares$Room" "kinds" "[I", Cond.methodLink RX2 35 yX2_cells, Cond.instanceMethod yX2_cells, Cond.selects RX2 yX2_cells yX2_cells, Cond.code yX2_cells cX2_cells 1 (some .int), Cond.methodLink RX3 39 yX2_cells, Cond.methodLink RX3 45 yJ0_indexOf_0f7a4, Cond.instanceMethod yJ0_indexOf_0f7a4, Cond.selects RJ0 yJ0_indexOf_0f7a4 yJ0_indexOf_0f7a4, Cond.initialized RJ0, Cond.code yJ0_indexOf_0f7a4 cJ0_indexOf_0f7a4 2 (some .int), Cond.methodLink RJ0 633 yJ0_indexOf_7cf53]
def wsX5_fault_r3 : List Cond := [Cond.instanceMethod yJ0_indexOf_7cf53, Cond.selects RJ0 yJ0_indexOf_7cf53 yJ0_indexOf_7cf53, Cond.code yJ0_indexOf_7cf53 cJ0_indexOf_7cf53 3 (some .int), Cond.fieldLink RJ0 9 "java/lang/String" "value" "[B", Cond.methodLink RJ0 492 yJ0_isLatin1_aae02, Cond.instanceMethod yJ0_isLatin1_aae02, Cond.selects RJ0 yJ0_isLatin1_aae02 yJ0_isLatin1_aae02, Cond.code yJ0_isLatin1_aae02 cJ0_isLatin1_aae02 1 (some .boolean), Cond.fieldLink RJ0 38 "java/lang/String" "COMPACT_STRINGS" "Z", Cond.fieldLink RJ0 15 "java/lang/String" "coder" "B", Cond.methodLink RJ0 505 yJ0_length_8abf5, Cond.instanceMethod yJ0_length_8abf5, Cond.selects RJ0 yJ0_length_8abf5 yJ0_length_8abf5, Cond.code yJ0_length_8abf5 cJ0_length_8abf5 1 (some .int), Cond.methodLink RJ0 335 yJ0_coder_7d493, Cond.instanceMethod yJ0_coder_7d493, Cond.selects RJ0 yJ0_coder_7d493 yJ0_coder_7d493, Cond.code yJ0_coder_7d493 cJ0_coder_7d493 1 (some .byte), Cond.methodLink RJ0 637 yJ1_indexOf_4cfef, Cond.static yJ1_indexOf_4cfef, Cond.initialized RJ1, Cond.code yJ1_indexOf_4cfef cJ1_indexOf_4cfef 4 (some .int), Cond.methodLink RJ1 92 Lib.Math.max.name, Cond.static Lib.Math.max.name]
def wsX5_fault_r4 : List Cond := [Cond.initialized "java/lang/Math", Cond.code Lib.Math.max.name Lib.Math.max.code 2 (some .int), Cond.methodLink RJ1 38 Lib.Math.min.name, Cond.static Lib.Math.min.name, Cond.code Lib.Math.min.name Lib.Math.min.code 2 (some .int), Cond.methodLink RJ1 88 yJ1_canEncode_9a6ad, Cond.static yJ1_canEncode_9a6ad, Cond.code yJ1_canEncode_9a6ad cJ1_canEncode_9a6ad 1 (some .boolean), Cond.methodLink RJ1 95 yJ1_indexOfChar_4cfef, Cond.static yJ1_indexOfChar_4cfef, Cond.code yJ1_indexOfChar_4cfef cJ1_indexOfChar_4cfef 6 (some .int), Cond.methodLink RJ0 640 yJ2_indexOf_4cfef, Cond.static yJ2_indexOf_4cfef, Cond.initialized RJ2, Cond.code yJ2_indexOf_4cfef cJ2_indexOf_4cfef 4 (some .int), Cond.methodLink RJ2 224 Lib.Math.max.name, Cond.methodLink RJ2 183 Lib.Math.min.name, Cond.constant RJ2 227 (65536), Cond.methodLink RJ2 228 yJ2_indexOfChar_4cfef, Cond.static yJ2_indexOfChar_4cfef, Cond.code yJ2_indexOfChar_4cfef cJ2_indexOfChar_4cfef 4 (some .int), Cond.methodLink RJ2 96 yJ2_checkBoundsBeginEnd_d044e, Cond.static yJ2_checkBoundsBeginEnd_d044e, Cond.code yJ2_checkBoundsBeginEnd_d044e cJ2_checkBoundsBeginEnd_d044e 3 none]
def wsX5_fault_r5 : List Cond := [Cond.methodLink RJ2 48 yJ2_length_9d52b, Cond.static yJ2_length_9d52b, Cond.code yJ2_length_9d52b cJ2_length_9d52b 1 (some .int), Cond.methodLink RJ2 241 yJ0_checkBoundsBeginEnd_23922, Cond.static yJ0_checkBoundsBeginEnd_23922, Cond.code yJ0_checkBoundsBeginEnd_23922 cJ0_checkBoundsBeginEnd_23922 3 none, Cond.fieldLink RJ0 1053 "jdk/internal/util/Preconditions" "SIOOBE_FORMATTER" "Ljava/util/function/BiFunction;", Cond.methodLink RJ0 1062 yJ3_checkFromToIndex_8c36e, Cond.static yJ3_checkFromToIndex_8c36e, Cond.initialized RJ3, Cond.code yJ3_checkFromToIndex_8c36e cJ3_checkFromToIndex_8c36e 4 (some .int), Cond.methodLink RJ2 244 yJ2_indexOfCharUnsafe_4cfef, Cond.static yJ2_indexOfCharUnsafe_4cfef, Cond.code yJ2_indexOfCharUnsafe_4cfef cJ2_indexOfCharUnsafe_4cfef 5 (some .int), Cond.methodLink RJ2 71 yJ2_getChar_3b067, Cond.static yJ2_getChar_3b067, Cond.code yJ2_getChar_3b067 cJ2_getChar_3b067 2 (some .char), Cond.fieldLink RJ2 44 "java/lang/StringUTF16" "$assertionsDisabled" "Z", Cond.fieldLink RJ2 59 "java/lang/StringUTF16" "HI_BYTE_SHIFT" "I", Cond.fieldLink RJ2 63 "java/lang/StringUTF16" "LO_BYTE_SHIFT" "I", Cond.methodLink RJ2 232 yJ2_indexOfSupplementary_4cfef, Cond.static yJ2_indexOfSupplementary_4cfef, Cond.code yJ2_indexOfSupplementary_4cfef cJ2_indexOfSupplementary_4cfef 7 (some .int), Cond.methodLink RJ2 164 yJ11_isValidCodePoint_9a6ad]
def wsX5_fault_r6 : List Cond := [Cond.static yJ11_isValidCodePoint_9a6ad, Cond.initialized RJ11, Cond.code yJ11_isValidCodePoint_9a6ad cJ11_isValidCodePoint_9a6ad 2 (some .boolean), Cond.methodLink RJ2 157 yJ11_highSurrogate_5068e, Cond.static yJ11_highSurrogate_5068e, Cond.code yJ11_highSurrogate_5068e cJ11_highSurrogate_5068e 1 (some .char), Cond.constant RJ11 110 (55232), Cond.methodLink RJ2 161 yJ11_lowSurrogate_5068e, Cond.static yJ11_lowSurrogate_5068e, Cond.code yJ11_lowSurrogate_5068e cJ11_lowSurrogate_5068e 1 (some .char), Cond.constant RJ11 76 (56320), Cond.methodLink RX3 50 yX2_tell, Cond.methodLink RX3 54 yX2_isOverfull, Cond.instanceMethod yX2_isOverfull, Cond.selects RX2 yX2_isOverfull yX2_isOverfull, Cond.code yX2_isOverfull cX2_isOverfull 1 (some .boolean), Cond.methodLink RX2 42 yX2_countKinds, Cond.instanceMethod yX2_countKinds, Cond.selects RX2 yX2_countKinds yX2_countKinds, Cond.code yX2_countKinds cX2_countKinds 6 (some .int), Cond.methodLink RX2 38 yX2_kindAt, Cond.instanceMethod yX2_kindAt, Cond.selects RX2 yX2_kindAt yX2_kindAt, Cond.code yX2_kindAt cX2_kindAt 2 (some .int)]
def wsX5_fault : List Cond := .code yX5_fault cX5_fault 1 (some .int) :: ((wsX5_fault_r1 ++ (wsX5_fault_r2 ++ (wsX5_fault_r3 ++ (wsX5_fault_r4 ++ (wsX5_fault_r5 ++ wsX5_fault_r6))))) ++ wsX50 ++ wsX30 ++ wsX20)
def wsX5_lay_r1 : List Cond := [Cond.fieldLink RX5 12 "MirrorShares" "text" "LMirrorShares$Told;", Cond.fieldLink RX5 23 "MirrorShares" "trial" "LMirrorShares$Room;", Cond.fieldLink RX5 19 "MirrorShares" "room" "LMirrorShares$Room;", Cond.fieldLink RX5 29 "MirrorShares" "past" "LMirrorShares$Past;", Cond.methodLink RX5 55 yX3_readInto, Cond.instanceMethod yX3_readInto, Cond.selects RX3 yX3_readInto yX3_readInto, Cond.initialized RX3, Cond.code yX3_readInto cX3_readInto 5 (some .int), Cond.fieldLink RX3 15 "MirrorShares$Told" "length" "I", Cond.methodLink RX3 19 yX2_empty, Cond.instanceMethod yX2_empty, Cond.selects RX2 yX2_empty yX2_empty, Cond.initialized RX2, Cond.code yX2_empty cX2_empty 1 none, Cond.fieldLink RX2 15 "MirrorShares$Room" "columns" "I", Cond.fieldLink RX2 19 "MirrorShares$Room" "rows" "I", Cond.methodLink RX3 24 yX3_endOfItem, Cond.instanceMethod yX3_endOfItem, Cond.selects RX3 yX3_endOfItem yX3_endOfItem, Cond.code yX3_endOfItem cX3_endOfItem 3 (some .int), Cond.methodLink RX3 32 yX3_letterAt, Cond.instanceMethod yX3_letterAt, Cond.selects RX3 yX3_letterAt yX3_letterAt]
def wsX5_lay_r2 : List Cond := [Cond.code yX3_letterAt cX3_letterAt 2 (some .int), Cond.fieldLink RX3 9 "MirrorShares$Told" "letters" "[I", Cond.methodLink RX3 28 yX3_readRow, Cond.instanceMethod yX3_readRow, Cond.selects RX3 yX3_readRow yX3_readRow, Cond.code yX3_readRow cX3_readRow 8 (some .boolean), Cond.methodLink RX3 35 yX2_addRow, Cond.instanceMethod yX2_addRow, Cond.selects RX2 yX2_addRow yX2_addRow, Cond.code yX2_addRow cX2_addRow 4 (some .boolean), Cond.methodLink RX2 52 yX2_tell, Cond.instanceMethod yX2_tell, Cond.selects RX2 yX2_tell yX2_tell, Cond.code yX2_tell cX2_tell 3 none, Cond.fieldLink RX2 9 "MirrorShares$Room" "kinds" "[I", Cond.methodLink RX2 35 yX2_cells, Cond.instanceMethod yX2_cells, Cond.selects RX2 yX2_cells yX2_cells, Cond.code yX2_cells cX2_cells 1 (some .int), Cond.methodLink RX3 39 yX2_cells, Cond.methodLink RX3 45 yJ0_indexOf_0f7a4, Cond.instanceMethod yJ0_indexOf_0f7a4, Cond.selects RJ0 yJ0_indexOf_0f7a4 yJ0_indexOf_0f7a4, Cond.initialized RJ0]
def wsX5_lay_r3 : List Cond := [Cond.code yJ0_indexOf_0f7a4 cJ0_indexOf_0f7a4 2 (some .int), Cond.methodLink RJ0 633 yJ0_indexOf_7cf53, Cond.instanceMethod yJ0_indexOf_7cf53, Cond.selects RJ0 yJ0_indexOf_7cf53 yJ0_indexOf_7cf53, Cond.code yJ0_indexOf_7cf53 cJ0_indexOf_7cf53 3 (some .int), Cond.fieldLink RJ0 9 "java/lang/String" "value" "[B", Cond.methodLink RJ0 492 yJ0_isLatin1_aae02, Cond.instanceMethod yJ0_isLatin1_aae02, Cond.selects RJ0 yJ0_isLatin1_aae02 yJ0_isLatin1_aae02, Cond.code yJ0_isLatin1_aae02 cJ0_isLatin1_aae02 1 (some .boolean), Cond.fieldLink RJ0 38 "java/lang/String" "COMPACT_STRINGS" "Z", Cond.fieldLink RJ0 15 "java/lang/String" "coder" "B", Cond.methodLink RJ0 505 yJ0_length_8abf5, Cond.instanceMethod yJ0_length_8abf5, Cond.selects RJ0 yJ0_length_8abf5 yJ0_length_8abf5, Cond.code yJ0_length_8abf5 cJ0_length_8abf5 1 (some .int), Cond.methodLink RJ0 335 yJ0_coder_7d493, Cond.instanceMethod yJ0_coder_7d493, Cond.selects RJ0 yJ0_coder_7d493 yJ0_coder_7d493, Cond.code yJ0_coder_7d493 cJ0_coder_7d493 1 (some .byte), Cond.methodLink RJ0 637 yJ1_indexOf_4cfef, Cond.static yJ1_indexOf_4cfef, Cond.initialized RJ1, Cond.code yJ1_indexOf_4cfef cJ1_indexOf_4cfef 4 (some .int)]
def wsX5_lay_r4 : List Cond := [Cond.methodLink RJ1 92 Lib.Math.max.name, Cond.static Lib.Math.max.name, Cond.initialized "java/lang/Math", Cond.code Lib.Math.max.name Lib.Math.max.code 2 (some .int), Cond.methodLink RJ1 38 Lib.Math.min.name, Cond.static Lib.Math.min.name, Cond.code Lib.Math.min.name Lib.Math.min.code 2 (some .int), Cond.methodLink RJ1 88 yJ1_canEncode_9a6ad, Cond.static yJ1_canEncode_9a6ad, Cond.code yJ1_canEncode_9a6ad cJ1_canEncode_9a6ad 1 (some .boolean), Cond.methodLink RJ1 95 yJ1_indexOfChar_4cfef, Cond.static yJ1_indexOfChar_4cfef, Cond.code yJ1_indexOfChar_4cfef cJ1_indexOfChar_4cfef 6 (some .int), Cond.methodLink RJ0 640 yJ2_indexOf_4cfef, Cond.static yJ2_indexOf_4cfef, Cond.initialized RJ2, Cond.code yJ2_indexOf_4cfef cJ2_indexOf_4cfef 4 (some .int), Cond.methodLink RJ2 224 Lib.Math.max.name, Cond.methodLink RJ2 183 Lib.Math.min.name, Cond.constant RJ2 227 (65536), Cond.methodLink RJ2 228 yJ2_indexOfChar_4cfef, Cond.static yJ2_indexOfChar_4cfef, Cond.code yJ2_indexOfChar_4cfef cJ2_indexOfChar_4cfef 4 (some .int), Cond.methodLink RJ2 96 yJ2_checkBoundsBeginEnd_d044e]
def wsX5_lay_r5 : List Cond := [Cond.static yJ2_checkBoundsBeginEnd_d044e, Cond.code yJ2_checkBoundsBeginEnd_d044e cJ2_checkBoundsBeginEnd_d044e 3 none, Cond.methodLink RJ2 48 yJ2_length_9d52b, Cond.static yJ2_length_9d52b, Cond.code yJ2_length_9d52b cJ2_length_9d52b 1 (some .int), Cond.methodLink RJ2 241 yJ0_checkBoundsBeginEnd_23922, Cond.static yJ0_checkBoundsBeginEnd_23922, Cond.code yJ0_checkBoundsBeginEnd_23922 cJ0_checkBoundsBeginEnd_23922 3 none, Cond.fieldLink RJ0 1053 "jdk/internal/util/Preconditions" "SIOOBE_FORMATTER" "Ljava/util/function/BiFunction;", Cond.methodLink RJ0 1062 yJ3_checkFromToIndex_8c36e, Cond.static yJ3_checkFromToIndex_8c36e, Cond.initialized RJ3, Cond.code yJ3_checkFromToIndex_8c36e cJ3_checkFromToIndex_8c36e 4 (some .int), Cond.methodLink RJ2 244 yJ2_indexOfCharUnsafe_4cfef, Cond.static yJ2_indexOfCharUnsafe_4cfef, Cond.code yJ2_indexOfCharUnsafe_4cfef cJ2_indexOfCharUnsafe_4cfef 5 (some .int), Cond.methodLink RJ2 71 yJ2_getChar_3b067, Cond.static yJ2_getChar_3b067, Cond.code yJ2_getChar_3b067 cJ2_getChar_3b067 2 (some .char), Cond.fieldLink RJ2 44 "java/lang/StringUTF16" "$assertionsDisabled" "Z", Cond.fieldLink RJ2 59 "java/lang/StringUTF16" "HI_BYTE_SHIFT" "I", Cond.fieldLink RJ2 63 "java/lang/StringUTF16" "LO_BYTE_SHIFT" "I", Cond.methodLink RJ2 232 yJ2_indexOfSupplementary_4cfef, Cond.static yJ2_indexOfSupplementary_4cfef]
def wsX5_lay_r6 : List Cond := [Cond.code yJ2_indexOfSupplementary_4cfef cJ2_indexOfSupplementary_4cfef 7 (some .int), Cond.methodLink RJ2 164 yJ11_isValidCodePoint_9a6ad, Cond.static yJ11_isValidCodePoint_9a6ad, Cond.initialized RJ11, Cond.code yJ11_isValidCodePoint_9a6ad cJ11_isValidCodePoint_9a6ad 2 (some .boolean), Cond.methodLink RJ2 157 yJ11_highSurrogate_5068e, Cond.static yJ11_highSurrogate_5068e, Cond.code yJ11_highSurrogate_5068e cJ11_highSurrogate_5068e 1 (some .char), Cond.constant RJ11 110 (55232), Cond.methodLink RJ2 161 yJ11_lowSurrogate_5068e, Cond.static yJ11_lowSurrogate_5068e, Cond.code yJ11_lowSurrogate_5068e cJ11_lowSurrogate_5068e 1 (some .char), Cond.constant RJ11 76 (56320), Cond.methodLink RX3 50 yX2_tell, Cond.methodLink RX3 54 yX2_isOverfull, Cond.instanceMethod yX2_isOverfull, Cond.selects RX2 yX2_isOverfull yX2_isOverfull, Cond.code yX2_isOverfull cX2_isOverfull 1 (some .boolean), Cond.methodLink RX2 42 yX2_countKinds, Cond.instanceMethod yX2_countKinds, Cond.selects RX2 yX2_countKinds yX2_countKinds, Cond.code yX2_countKinds cX2_countKinds 6 (some .int), Cond.methodLink RX2 38 yX2_kindAt, Cond.instanceMethod yX2_kindAt]
def wsX5_lay_r7 : List Cond := [Cond.selects RX2 yX2_kindAt yX2_kindAt, Cond.code yX2_kindAt cX2_kindAt 2 (some .int), Cond.methodLink RX5 63 yX2_become, Cond.instanceMethod yX2_become, Cond.selects RX2 yX2_become yX2_become, Cond.code yX2_become cX2_become 2 none, Cond.methodLink RX2 25 arraycopyName, Cond.native arraycopyName, Cond.static arraycopyName, Cond.initialized "java/lang/System", Cond.methodLink RX5 67 yX1_forget, Cond.instanceMethod yX1_forget, Cond.selects RX1 yX1_forget yX1_forget, Cond.initialized RX1, Cond.code yX1_forget cX1_forget 1 none, Cond.fieldLink RX1 15 "MirrorShares$Past" "size" "I", Cond.methodLink RX5 70 yX2_cells]
def wsX5_lay : List Cond := .code yX5_lay cX5_lay 1 (some .int) :: ((wsX5_lay_r1 ++ (wsX5_lay_r2 ++ (wsX5_lay_r3 ++ (wsX5_lay_r4 ++ (wsX5_lay_r5 ++ (wsX5_lay_r6 ++ wsX5_lay_r7)))))) ++ wsX50 ++ wsX20 ++ wsX30 ++ wsX10)
def wsX5_tryCell : List Cond := .code yX5_tryCell cX5_tryCell 3 none :: ([.fieldLink RX5 23 "MirrorShares" "trial" "LMirrorShares$Room;", .fieldLink RX5 19 "MirrorShares" "room" "LMirrorShares$Room;", .methodLink RX5 63 yX2_become, .instanceMethod yX2_become, .selects RX2 yX2_become yX2_become, .initialized RX2, .code yX2_become cX2_become 2 none, .fieldLink RX2 15 "MirrorShares$Room" "columns" "I", .fieldLink RX2 19 "MirrorShares$Room" "rows" "I", .fieldLink RX2 9 "MirrorShares$Room" "kinds" "[I", .methodLink RX2 25 arraycopyName, .native arraycopyName, .static arraycopyName, .initialized "java/lang/System", .methodLink RX5 120 yX2_tell, .instanceMethod yX2_tell, .selects RX2 yX2_tell yX2_tell, .code yX2_tell cX2_tell 3 none, .methodLink RX2 35 yX2_cells, .instanceMethod yX2_cells, .selects RX2 yX2_cells yX2_cells, .code yX2_cells cX2_cells 1 (some .int)] ++ wsX50 ++ wsX20)
def wsX5_change_r1 : List Cond := [Cond.fieldLink RX5 29 "MirrorShares" "past" "LMirrorShares$Past;", Cond.fieldLink RX5 19 "MirrorShares" "room" "LMirrorShares$Room;", Cond.methodLink RX5 123 yX1_rememberKind, Cond.instanceMethod yX1_rememberKind, Cond.selects RX1 yX1_rememberKind yX1_rememberKind, Cond.initialized RX1, Cond.code yX1_rememberKind cX1_rememberKind 3 none, Cond.methodLink RX1 19 yX1_remember, Cond.instanceMethod yX1_remember, Cond.selects RX1 yX1_remember yX1_remember, Cond.code yX1_remember cX1_remember 2 none, Cond.fieldLink RX1 15 "MirrorShares$Past" "size" "I", Cond.fieldLink RX1 9 "MirrorShares$Past" "changes" "[I", Cond.methodLink RX1 23 arraycopyName, Cond.native arraycopyName, Cond.static arraycopyName, Cond.initialized "java/lang/System", Cond.methodLink RX5 120 yX2_tell, Cond.instanceMethod yX2_tell, Cond.selects RX2 yX2_tell yX2_tell, Cond.initialized RX2, Cond.code yX2_tell cX2_tell 3 none, Cond.fieldLink RX2 9 "MirrorShares$Room" "kinds" "[I", Cond.methodLink RX2 35 yX2_cells]
def wsX5_change_r2 : List Cond := [Cond.instanceMethod yX2_cells, Cond.selects RX2 yX2_cells yX2_cells, Cond.code yX2_cells cX2_cells 1 (some .int), Cond.fieldLink RX2 15 "MirrorShares$Room" "columns" "I", Cond.fieldLink RX2 19 "MirrorShares$Room" "rows" "I"]
def wsX5_change : List Cond := .code yX5_change cX5_change 4 none :: ((wsX5_change_r1 ++ wsX5_change_r2) ++ wsX50 ++ wsX10 ++ wsX20)
def wsX5_put_r1 : List Cond := [Cond.fieldLink RX5 19 "MirrorShares" "room" "LMirrorShares$Room;", Cond.fieldLink RX5 23 "MirrorShares" "trial" "LMirrorShares$Room;", Cond.methodLink RX5 73 yX2_kindAt, Cond.instanceMethod yX2_kindAt, Cond.selects RX2 yX2_kindAt yX2_kindAt, Cond.initialized RX2, Cond.code yX2_kindAt cX2_kindAt 2 (some .int), Cond.fieldLink RX2 9 "MirrorShares$Room" "kinds" "[I", Cond.methodLink RX2 35 yX2_cells, Cond.instanceMethod yX2_cells, Cond.selects RX2 yX2_cells yX2_cells, Cond.code yX2_cells cX2_cells 1 (some .int), Cond.fieldLink RX2 15 "MirrorShares$Room" "columns" "I", Cond.fieldLink RX2 19 "MirrorShares$Room" "rows" "I", Cond.methodLink RX5 76 yX5_tryCell, Cond.instanceMethod yX5_tryCell, Cond.selects RX5 yX5_tryCell yX5_tryCell, Cond.initialized RX5, Cond.code yX5_tryCell cX5_tryCell 3 none, Cond.methodLink RX5 63 yX2_become, Cond.instanceMethod yX2_become, Cond.selects RX2 yX2_become yX2_become, Cond.code yX2_become cX2_become 2 none, Cond.methodLink RX2 25 arraycopyName]
def wsX5_put_r2 : List Cond := [Cond.native arraycopyName, Cond.static arraycopyName, Cond.initialized "java/lang/System", Cond.methodLink RX5 120 yX2_tell, Cond.instanceMethod yX2_tell, Cond.selects RX2 yX2_tell yX2_tell, Cond.code yX2_tell cX2_tell 3 none, Cond.methodLink RX5 80 yX2_isOverfull, Cond.instanceMethod yX2_isOverfull, Cond.selects RX2 yX2_isOverfull yX2_isOverfull, Cond.code yX2_isOverfull cX2_isOverfull 1 (some .boolean), Cond.methodLink RX2 42 yX2_countKinds, Cond.instanceMethod yX2_countKinds, Cond.selects RX2 yX2_countKinds yX2_countKinds, Cond.code yX2_countKinds cX2_countKinds 6 (some .int), Cond.methodLink RX2 38 yX2_kindAt, Cond.methodLink RX5 84 yX5_change, Cond.instanceMethod yX5_change, Cond.selects RX5 yX5_change yX5_change, Cond.code yX5_change cX5_change 4 none, Cond.fieldLink RX5 29 "MirrorShares" "past" "LMirrorShares$Past;", Cond.methodLink RX5 123 yX1_rememberKind, Cond.instanceMethod yX1_rememberKind, Cond.selects RX1 yX1_rememberKind yX1_rememberKind]
def wsX5_put_r3 : List Cond := [Cond.initialized RX1, Cond.code yX1_rememberKind cX1_rememberKind 3 none, Cond.methodLink RX1 19 yX1_remember, Cond.instanceMethod yX1_remember, Cond.selects RX1 yX1_remember yX1_remember, Cond.code yX1_remember cX1_remember 2 none, Cond.fieldLink RX1 15 "MirrorShares$Past" "size" "I", Cond.fieldLink RX1 9 "MirrorShares$Past" "changes" "[I", Cond.methodLink RX1 23 arraycopyName]
def wsX5_put : List Cond := .code yX5_put cX5_put 4 (some .int) :: ((wsX5_put_r1 ++ (wsX5_put_r2 ++ wsX5_put_r3)) ++ wsX50 ++ wsX20 ++ wsX10)
def wsX5_isPart : List Cond := .code yX5_isPart cX5_isPart 2 (some .boolean) :: ([])
def wsX5_door_r1 : List Cond := [Cond.fieldLink RX5 19 "MirrorShares" "room" "LMirrorShares$Room;", Cond.methodLink RX5 88 yX2_doorCell, Cond.instanceMethod yX2_doorCell, Cond.selects RX2 yX2_doorCell yX2_doorCell, Cond.initialized RX2, Cond.code yX2_doorCell cX2_doorCell 4 (some .int), Cond.methodLink RX2 35 yX2_cells, Cond.instanceMethod yX2_cells, Cond.selects RX2 yX2_cells yX2_cells, Cond.code yX2_cells cX2_cells 1 (some .int), Cond.fieldLink RX2 15 "MirrorShares$Room" "columns" "I", Cond.fieldLink RX2 19 "MirrorShares$Room" "rows" "I", Cond.methodLink RX2 38 yX2_kindAt, Cond.instanceMethod yX2_kindAt, Cond.selects RX2 yX2_kindAt yX2_kindAt, Cond.code yX2_kindAt cX2_kindAt 2 (some .int), Cond.fieldLink RX2 9 "MirrorShares$Room" "kinds" "[I", Cond.methodLink RX5 91 yX5_isPart, Cond.static yX5_isPart, Cond.initialized RX5, Cond.code yX5_isPart cX5_isPart 2 (some .boolean), Cond.methodLink RX5 73 yX2_kindAt, Cond.methodLink RX5 84 yX5_change, Cond.instanceMethod yX5_change]
def wsX5_door_r2 : List Cond := [Cond.selects RX5 yX5_change yX5_change, Cond.code yX5_change cX5_change 4 none, Cond.fieldLink RX5 29 "MirrorShares" "past" "LMirrorShares$Past;", Cond.methodLink RX5 123 yX1_rememberKind, Cond.instanceMethod yX1_rememberKind, Cond.selects RX1 yX1_rememberKind yX1_rememberKind, Cond.initialized RX1, Cond.code yX1_rememberKind cX1_rememberKind 3 none, Cond.methodLink RX1 19 yX1_remember, Cond.instanceMethod yX1_remember, Cond.selects RX1 yX1_remember yX1_remember, Cond.code yX1_remember cX1_remember 2 none, Cond.fieldLink RX1 15 "MirrorShares$Past" "size" "I", Cond.fieldLink RX1 9 "MirrorShares$Past" "changes" "[I", Cond.methodLink RX1 23 arraycopyName, Cond.native arraycopyName, Cond.static arraycopyName, Cond.initialized "java/lang/System", Cond.methodLink RX5 120 yX2_tell, Cond.instanceMethod yX2_tell, Cond.selects RX2 yX2_tell yX2_tell, Cond.code yX2_tell cX2_tell 3 none, Cond.methodLink RX5 95 yX2_countKinds, Cond.instanceMethod yX2_countKinds]
def wsX5_door_r3 : List Cond := [Cond.selects RX2 yX2_countKinds yX2_countKinds, Cond.code yX2_countKinds cX2_countKinds 6 (some .int)]
def wsX5_door : List Cond := .code yX5_door cX5_door 6 (some .int) :: ((wsX5_door_r1 ++ (wsX5_door_r2 ++ wsX5_door_r3)) ++ wsX50 ++ wsX20 ++ wsX10)
def wsX5_turnRoom_r1 : List Cond := [Cond.fieldLink RX5 23 "MirrorShares" "trial" "LMirrorShares$Room;", Cond.fieldLink RX5 19 "MirrorShares" "room" "LMirrorShares$Room;", Cond.methodLink RX5 126 yX2_becomeTurned, Cond.instanceMethod yX2_becomeTurned, Cond.selects RX2 yX2_becomeTurned yX2_becomeTurned, Cond.initialized RX2, Cond.code yX2_becomeTurned cX2_becomeTurned 5 none, Cond.fieldLink RX2 19 "MirrorShares$Room" "rows" "I", Cond.fieldLink RX2 15 "MirrorShares$Room" "columns" "I", Cond.methodLink RX2 38 yX2_kindAt, Cond.instanceMethod yX2_kindAt, Cond.selects RX2 yX2_kindAt yX2_kindAt, Cond.code yX2_kindAt cX2_kindAt 2 (some .int), Cond.fieldLink RX2 9 "MirrorShares$Room" "kinds" "[I", Cond.methodLink RX2 35 yX2_cells, Cond.instanceMethod yX2_cells, Cond.selects RX2 yX2_cells yX2_cells, Cond.code yX2_cells cX2_cells 1 (some .int), Cond.methodLink RX2 49 yX2_turnedKind, Cond.static yX2_turnedKind, Cond.code yX2_turnedKind cX2_turnedKind 1 (some .int), Cond.methodLink RX2 52 yX2_tell, Cond.instanceMethod yX2_tell, Cond.selects RX2 yX2_tell yX2_tell]
def wsX5_turnRoom_r2 : List Cond := [Cond.code yX2_tell cX2_tell 3 none, Cond.methodLink RX5 63 yX2_become, Cond.instanceMethod yX2_become, Cond.selects RX2 yX2_become yX2_become, Cond.code yX2_become cX2_become 2 none, Cond.methodLink RX2 25 arraycopyName, Cond.native arraycopyName, Cond.static arraycopyName, Cond.initialized "java/lang/System"]
def wsX5_turnRoom : List Cond := .code yX5_turnRoom cX5_turnRoom 1 none :: ((wsX5_turnRoom_r1 ++ wsX5_turnRoom_r2) ++ wsX50 ++ wsX20)
def wsX5_turn_r1 : List Cond := [Cond.fieldLink RX5 19 "MirrorShares" "room" "LMirrorShares$Room;", Cond.fieldLink RX5 29 "MirrorShares" "past" "LMirrorShares$Past;", Cond.methodLink RX5 102 yX5_turnRoom, Cond.instanceMethod yX5_turnRoom, Cond.selects RX5 yX5_turnRoom yX5_turnRoom, Cond.initialized RX5, Cond.code yX5_turnRoom cX5_turnRoom 1 none, Cond.fieldLink RX5 23 "MirrorShares" "trial" "LMirrorShares$Room;", Cond.methodLink RX5 126 yX2_becomeTurned, Cond.instanceMethod yX2_becomeTurned, Cond.selects RX2 yX2_becomeTurned yX2_becomeTurned, Cond.initialized RX2, Cond.code yX2_becomeTurned cX2_becomeTurned 5 none, Cond.fieldLink RX2 19 "MirrorShares$Room" "rows" "I", Cond.fieldLink RX2 15 "MirrorShares$Room" "columns" "I", Cond.methodLink RX2 38 yX2_kindAt, Cond.instanceMethod yX2_kindAt, Cond.selects RX2 yX2_kindAt yX2_kindAt, Cond.code yX2_kindAt cX2_kindAt 2 (some .int), Cond.fieldLink RX2 9 "MirrorShares$Room" "kinds" "[I", Cond.methodLink RX2 35 yX2_cells, Cond.instanceMethod yX2_cells, Cond.selects RX2 yX2_cells yX2_cells, Cond.code yX2_cells cX2_cells 1 (some .int)]
def wsX5_turn_r2 : List Cond := [Cond.methodLink RX2 49 yX2_turnedKind, Cond.static yX2_turnedKind, Cond.code yX2_turnedKind cX2_turnedKind 1 (some .int), Cond.methodLink RX2 52 yX2_tell, Cond.instanceMethod yX2_tell, Cond.selects RX2 yX2_tell yX2_tell, Cond.code yX2_tell cX2_tell 3 none, Cond.methodLink RX5 63 yX2_become, Cond.instanceMethod yX2_become, Cond.selects RX2 yX2_become yX2_become, Cond.code yX2_become cX2_become 2 none, Cond.methodLink RX2 25 arraycopyName, Cond.native arraycopyName, Cond.static arraycopyName, Cond.initialized "java/lang/System", Cond.methodLink RX5 105 yX1_rememberTurn, Cond.instanceMethod yX1_rememberTurn, Cond.selects RX1 yX1_rememberTurn yX1_rememberTurn, Cond.initialized RX1, Cond.code yX1_rememberTurn cX1_rememberTurn 1 none, Cond.methodLink RX1 19 yX1_remember, Cond.instanceMethod yX1_remember, Cond.selects RX1 yX1_remember yX1_remember, Cond.code yX1_remember cX1_remember 2 none]
def wsX5_turn_r3 : List Cond := [Cond.fieldLink RX1 15 "MirrorShares$Past" "size" "I", Cond.fieldLink RX1 9 "MirrorShares$Past" "changes" "[I", Cond.methodLink RX1 23 arraycopyName]
def wsX5_turn : List Cond := .code yX5_turn cX5_turn 1 (some .int) :: ((wsX5_turn_r1 ++ (wsX5_turn_r2 ++ wsX5_turn_r3)) ++ wsX50 ++ wsX20 ++ wsX10)
def wsX5_undo_r1 : List Cond := [Cond.fieldLink RX5 29 "MirrorShares" "past" "LMirrorShares$Past;", Cond.fieldLink RX5 19 "MirrorShares" "room" "LMirrorShares$Room;", Cond.methodLink RX5 111 yX1_takeLatest, Cond.instanceMethod yX1_takeLatest, Cond.selects RX1 yX1_takeLatest yX1_takeLatest, Cond.initialized RX1, Cond.code yX1_takeLatest cX1_takeLatest 1 (some .int), Cond.fieldLink RX1 15 "MirrorShares$Past" "size" "I", Cond.fieldLink RX1 9 "MirrorShares$Past" "changes" "[I", Cond.methodLink RX5 102 yX5_turnRoom, Cond.instanceMethod yX5_turnRoom, Cond.selects RX5 yX5_turnRoom yX5_turnRoom, Cond.initialized RX5, Cond.code yX5_turnRoom cX5_turnRoom 1 none, Cond.fieldLink RX5 23 "MirrorShares" "trial" "LMirrorShares$Room;", Cond.methodLink RX5 126 yX2_becomeTurned, Cond.instanceMethod yX2_becomeTurned, Cond.selects RX2 yX2_becomeTurned yX2_becomeTurned, Cond.initialized RX2, Cond.code yX2_becomeTurned cX2_becomeTurned 5 none, Cond.fieldLink RX2 19 "MirrorShares$Room" "rows" "I", Cond.fieldLink RX2 15 "MirrorShares$Room" "columns" "I", Cond.methodLink RX2 38 yX2_kindAt, Cond.instanceMethod yX2_kindAt]
def wsX5_undo_r2 : List Cond := [Cond.selects RX2 yX2_kindAt yX2_kindAt, Cond.code yX2_kindAt cX2_kindAt 2 (some .int), Cond.fieldLink RX2 9 "MirrorShares$Room" "kinds" "[I", Cond.methodLink RX2 35 yX2_cells, Cond.instanceMethod yX2_cells, Cond.selects RX2 yX2_cells yX2_cells, Cond.code yX2_cells cX2_cells 1 (some .int), Cond.methodLink RX2 49 yX2_turnedKind, Cond.static yX2_turnedKind, Cond.code yX2_turnedKind cX2_turnedKind 1 (some .int), Cond.methodLink RX2 52 yX2_tell, Cond.instanceMethod yX2_tell, Cond.selects RX2 yX2_tell yX2_tell, Cond.code yX2_tell cX2_tell 3 none, Cond.methodLink RX5 63 yX2_become, Cond.instanceMethod yX2_become, Cond.selects RX2 yX2_become yX2_become, Cond.code yX2_become cX2_become 2 none, Cond.methodLink RX2 25 arraycopyName, Cond.native arraycopyName, Cond.static arraycopyName, Cond.initialized "java/lang/System", Cond.methodLink RX5 114 yX1_cellOf, Cond.static yX1_cellOf]
def wsX5_undo_r3 : List Cond := [Cond.code yX1_cellOf cX1_cellOf 1 (some .int), Cond.methodLink RX5 117 yX1_kindOf, Cond.static yX1_kindOf, Cond.code yX1_kindOf cX1_kindOf 1 (some .int), Cond.methodLink RX5 120 yX2_tell]
def wsX5_undo : List Cond := .code yX5_undo cX5_undo 2 (some .int) :: ((wsX5_undo_r1 ++ (wsX5_undo_r2 ++ wsX5_undo_r3)) ++ wsX50 ++ wsX10 ++ wsX20)
def wsX5_cell : List Cond := .code yX5_cell cX5_cell 2 (some .int) :: ([.fieldLink RX5 19 "MirrorShares" "room" "LMirrorShares$Room;", .methodLink RX5 73 yX2_kindAt, .instanceMethod yX2_kindAt, .selects RX2 yX2_kindAt yX2_kindAt, .initialized RX2, .code yX2_kindAt cX2_kindAt 2 (some .int), .fieldLink RX2 9 "MirrorShares$Room" "kinds" "[I", .methodLink RX2 35 yX2_cells, .instanceMethod yX2_cells, .selects RX2 yX2_cells yX2_cells, .code yX2_cells cX2_cells 1 (some .int), .fieldLink RX2 15 "MirrorShares$Room" "columns" "I", .fieldLink RX2 19 "MirrorShares$Room" "rows" "I"] ++ wsX50 ++ wsX20)
def wsX5_doorAt : List Cond := .code yX5_doorAt cX5_doorAt 2 (some .int) :: ([.fieldLink RX5 19 "MirrorShares" "room" "LMirrorShares$Room;", .methodLink RX5 88 yX2_doorCell, .instanceMethod yX2_doorCell, .selects RX2 yX2_doorCell yX2_doorCell, .initialized RX2, .code yX2_doorCell cX2_doorCell 4 (some .int), .methodLink RX2 35 yX2_cells, .instanceMethod yX2_cells, .selects RX2 yX2_cells yX2_cells, .code yX2_cells cX2_cells 1 (some .int), .fieldLink RX2 15 "MirrorShares$Room" "columns" "I", .fieldLink RX2 19 "MirrorShares$Room" "rows" "I", .methodLink RX2 38 yX2_kindAt, .instanceMethod yX2_kindAt, .selects RX2 yX2_kindAt yX2_kindAt, .code yX2_kindAt cX2_kindAt 2 (some .int), .fieldLink RX2 9 "MirrorShares$Room" "kinds" "[I"] ++ wsX50 ++ wsX20)
def wsX5_port_r1 : List Cond := [Cond.fieldLink RX5 19 "MirrorShares" "room" "LMirrorShares$Room;", Cond.methodLink RX5 129 yX2_hasPort, Cond.instanceMethod yX2_hasPort, Cond.selects RX2 yX2_hasPort yX2_hasPort, Cond.initialized RX2, Cond.code yX2_hasPort cX2_hasPort 2 (some .boolean), Cond.methodLink RX2 31 yX2_ports, Cond.instanceMethod yX2_ports, Cond.selects RX2 yX2_ports yX2_ports, Cond.code yX2_ports cX2_ports 1 (some .int), Cond.fieldLink RX2 15 "MirrorShares$Room" "columns" "I", Cond.fieldLink RX2 19 "MirrorShares$Room" "rows" "I", Cond.methodLink RX5 91 yX5_isPart, Cond.static yX5_isPart, Cond.initialized RX5, Cond.code yX5_isPart cX5_isPart 2 (some .boolean), Cond.methodLink RX5 133 yX2_portCell, Cond.instanceMethod yX2_portCell, Cond.selects RX2 yX2_portCell yX2_portCell, Cond.code yX2_portCell cX2_portCell 2 (some .int), Cond.methodLink RX2 46 yX2_portDirection, Cond.instanceMethod yX2_portDirection, Cond.selects RX2 yX2_portDirection yX2_portDirection, Cond.code yX2_portDirection cX2_portDirection 2 (some .int)]
def wsX5_port_r2 : List Cond := [Cond.methodLink RX5 136 yX2_portDirection]
def wsX5_port : List Cond := .code yX5_port cX5_port 3 (some .int) :: ((wsX5_port_r1 ++ wsX5_port_r2) ++ wsX50 ++ wsX20)
def wsX5_hasPorts : List Cond := .code yX5_hasPorts cX5_hasPorts 3 (some .boolean) :: ([.fieldLink RX5 19 "MirrorShares" "room" "LMirrorShares$Room;", .methodLink RX5 129 yX2_hasPort, .instanceMethod yX2_hasPort, .selects RX2 yX2_hasPort yX2_hasPort, .initialized RX2, .code yX2_hasPort cX2_hasPort 2 (some .boolean), .methodLink RX2 31 yX2_ports, .instanceMethod yX2_ports, .selects RX2 yX2_ports yX2_ports, .code yX2_ports cX2_ports 1 (some .int), .fieldLink RX2 15 "MirrorShares$Room" "columns" "I", .fieldLink RX2 19 "MirrorShares$Room" "rows" "I"] ++ wsX50 ++ wsX20)
def wsX5_commonDivisor : List Cond := .code yX5_commonDivisor cX5_commonDivisor 11 (some .long) :: ([])
def wsX5_lowest : List Cond := .code yX5_lowest cX5_lowest 7 (some .int) :: ([.methodLink RX5 204 yX5_commonDivisor, .static yX5_commonDivisor, .initialized RX5, .code yX5_commonDivisor cX5_commonDivisor 11 (some .long)])
def wsX5_share_r1 : List Cond := [Cond.fieldLink RX5 43 "MirrorShares" "beam" "LMirrorShares$Beam;", Cond.fieldLink RX5 19 "MirrorShares" "room" "LMirrorShares$Room;", Cond.methodLink RX5 139 yX5_hasPorts, Cond.instanceMethod yX5_hasPorts, Cond.selects RX5 yX5_hasPorts yX5_hasPorts, Cond.initialized RX5, Cond.code yX5_hasPorts cX5_hasPorts 3 (some .boolean), Cond.methodLink RX5 129 yX2_hasPort, Cond.instanceMethod yX2_hasPort, Cond.selects RX2 yX2_hasPort yX2_hasPort, Cond.initialized RX2, Cond.code yX2_hasPort cX2_hasPort 2 (some .boolean), Cond.methodLink RX2 31 yX2_ports, Cond.instanceMethod yX2_ports, Cond.selects RX2 yX2_ports yX2_ports, Cond.code yX2_ports cX2_ports 1 (some .int), Cond.fieldLink RX2 15 "MirrorShares$Room" "columns" "I", Cond.fieldLink RX2 19 "MirrorShares$Room" "rows" "I", Cond.methodLink RX5 91 yX5_isPart, Cond.static yX5_isPart, Cond.code yX5_isPart cX5_isPart 2 (some .boolean), Cond.methodLink RX5 142 yX0_shine, Cond.instanceMethod yX0_shine, Cond.selects RX0 yX0_shine yX0_shine]
def wsX5_share_r2 : List Cond := [Cond.initialized RX0, Cond.code yX0_shine cX0_shine 4 none, Cond.methodLink RX0 46 yX2_portCell, Cond.instanceMethod yX2_portCell, Cond.selects RX2 yX2_portCell yX2_portCell, Cond.code yX2_portCell cX2_portCell 2 (some .int), Cond.methodLink RX2 46 yX2_portDirection, Cond.instanceMethod yX2_portDirection, Cond.selects RX2 yX2_portDirection yX2_portDirection, Cond.code yX2_portDirection cX2_portDirection 2 (some .int), Cond.methodLink RX0 52 yX2_portDirection, Cond.methodLink RX0 55 yX0_endOf, Cond.static yX0_endOf, Cond.code yX0_endOf cX0_endOf 8 (some .int), Cond.methodLink RX0 85 yX2_kindAt, Cond.instanceMethod yX2_kindAt, Cond.selects RX2 yX2_kindAt yX2_kindAt, Cond.code yX2_kindAt cX2_kindAt 2 (some .int), Cond.fieldLink RX2 9 "MirrorShares$Room" "kinds" "[I", Cond.methodLink RX2 35 yX2_cells, Cond.instanceMethod yX2_cells, Cond.selects RX2 yX2_cells yX2_cells, Cond.code yX2_cells cX2_cells 1 (some .int), Cond.static yX5_isHalf]
def wsX5_share_r3 : List Cond := [Cond.code yX5_isHalf cX5_isHalf 1 (some .boolean), Cond.static yX5_turnedBy, Cond.code yX5_turnedBy cX5_turnedBy 3 (some .int), Cond.static yX5_letsOn, Cond.code yX5_letsOn cX5_letsOn 1 (some .boolean), Cond.methodLink RX5 209 yX5_isHalf, Cond.static yX5_turnsBeam, Cond.code yX5_turnsBeam cX5_turnsBeam 1 (some .boolean), Cond.methodLink RX0 92 yX2_beyond, Cond.instanceMethod yX2_beyond, Cond.selects RX2 yX2_beyond yX2_beyond, Cond.code yX2_beyond cX2_beyond 5 (some .int), Cond.methodLink RX0 59 yX0_findSplits, Cond.instanceMethod yX0_findSplits, Cond.selects RX0 yX0_findSplits yX0_findSplits, Cond.code yX0_findSplits cX0_findSplits 6 none, Cond.fieldLink RX0 15 "MirrorShares$Beam" "splitNumber" "[I", Cond.fieldLink RX0 30 "MirrorShares$Beam" "splits" "I", Cond.fieldLink RX0 11 "MirrorShares$Beam" "splitPlace" "[I", Cond.fieldLink RX0 18 "MirrorShares$Beam" "rayEnd" "[I", Cond.methodLink RX0 73 yJ7_fill_53178, Cond.static yJ7_fill_53178, Cond.initialized RJ7, Cond.code yJ7_fill_53178 cJ7_fill_53178 4 none]
def wsX5_share_r4 : List Cond := [Cond.methodLink RX0 79 yX0_noteSplit, Cond.instanceMethod yX0_noteSplit, Cond.selects RX0 yX0_noteSplit yX0_noteSplit, Cond.code yX0_noteSplit cX0_noteSplit 2 none, Cond.methodLink RX0 82 yX0_endBeyond, Cond.static yX0_endBeyond, Cond.code yX0_endBeyond cX0_endBeyond 4 (some .int), Cond.methodLink RX0 63 yX0_setRows, Cond.instanceMethod yX0_setRows, Cond.selects RX0 yX0_setRows yX0_setRows, Cond.code yX0_setRows cX0_setRows 4 none, Cond.fieldLink RX0 23 "MirrorShares$Beam" "rows" "[[J", Cond.constantLong RX0 108 (2), Cond.methodLink RX0 105 yJ7_fill_d0a16, Cond.static yJ7_fill_d0a16, Cond.code yJ7_fill_d0a16 cJ7_fill_d0a16 5 none, Cond.methodLink RX0 66 yX0_solveRows, Cond.instanceMethod yX0_solveRows, Cond.selects RX0 yX0_solveRows yX0_solveRows, Cond.code yX0_solveRows cX0_solveRows 5 none, Cond.fieldLink RX0 34 "MirrorShares$Beam" "whole" "J", Cond.methodLink RX0 110 yX0_clearColumn, Cond.instanceMethod yX0_clearColumn, Cond.selects RX0 yX0_clearColumn yX0_clearColumn]
def wsX5_share_r5 : List Cond := [Cond.code yX0_clearColumn cX0_clearColumn 7 none, Cond.methodLink RX0 69 yX0_addParts, Cond.instanceMethod yX0_addParts, Cond.selects RX0 yX0_addParts yX0_addParts, Cond.code yX0_addParts cX0_addParts 3 none, Cond.fieldLink RX0 26 "MirrorShares$Beam" "parts" "[J", Cond.methodLink RX0 114 yX0_addPart, Cond.instanceMethod yX0_addPart, Cond.selects RX0 yX0_addPart yX0_addPart, Cond.code yX0_addPart cX0_addPart 4 none, Cond.methodLink RX5 146 yX0_outAt, Cond.instanceMethod yX0_outAt, Cond.selects RX0 yX0_outAt yX0_outAt, Cond.code yX0_outAt cX0_outAt 2 (some .long), Cond.methodLink RX5 154 yX5_lowest, Cond.static yX5_lowest, Cond.code yX5_lowest cX5_lowest 7 (some .int), Cond.methodLink RX5 204 yX5_commonDivisor, Cond.static yX5_commonDivisor, Cond.code yX5_commonDivisor cX5_commonDivisor 11 (some .long)]
def wsX5_share : List Cond := .code yX5_share cX5_share 4 (some .int) :: ((wsX5_share_r1 ++ (wsX5_share_r2 ++ (wsX5_share_r3 ++ (wsX5_share_r4 ++ wsX5_share_r5)))) ++ wsX50 ++ wsX00 ++ wsX20)
def wsX5_lost_r1 : List Cond := [Cond.fieldLink RX5 19 "MirrorShares" "room" "LMirrorShares$Room;", Cond.fieldLink RX5 43 "MirrorShares" "beam" "LMirrorShares$Beam;", Cond.methodLink RX5 129 yX2_hasPort, Cond.instanceMethod yX2_hasPort, Cond.selects RX2 yX2_hasPort yX2_hasPort, Cond.initialized RX2, Cond.code yX2_hasPort cX2_hasPort 2 (some .boolean), Cond.methodLink RX2 31 yX2_ports, Cond.instanceMethod yX2_ports, Cond.selects RX2 yX2_ports yX2_ports, Cond.code yX2_ports cX2_ports 1 (some .int), Cond.fieldLink RX2 15 "MirrorShares$Room" "columns" "I", Cond.fieldLink RX2 19 "MirrorShares$Room" "rows" "I", Cond.methodLink RX5 91 yX5_isPart, Cond.static yX5_isPart, Cond.initialized RX5, Cond.code yX5_isPart cX5_isPart 2 (some .boolean), Cond.methodLink RX5 142 yX0_shine, Cond.instanceMethod yX0_shine, Cond.selects RX0 yX0_shine yX0_shine, Cond.initialized RX0, Cond.code yX0_shine cX0_shine 4 none, Cond.methodLink RX0 46 yX2_portCell, Cond.instanceMethod yX2_portCell]
def wsX5_lost_r2 : List Cond := [Cond.selects RX2 yX2_portCell yX2_portCell, Cond.code yX2_portCell cX2_portCell 2 (some .int), Cond.methodLink RX2 46 yX2_portDirection, Cond.instanceMethod yX2_portDirection, Cond.selects RX2 yX2_portDirection yX2_portDirection, Cond.code yX2_portDirection cX2_portDirection 2 (some .int), Cond.methodLink RX0 52 yX2_portDirection, Cond.methodLink RX0 55 yX0_endOf, Cond.static yX0_endOf, Cond.code yX0_endOf cX0_endOf 8 (some .int), Cond.methodLink RX0 85 yX2_kindAt, Cond.instanceMethod yX2_kindAt, Cond.selects RX2 yX2_kindAt yX2_kindAt, Cond.code yX2_kindAt cX2_kindAt 2 (some .int), Cond.fieldLink RX2 9 "MirrorShares$Room" "kinds" "[I", Cond.methodLink RX2 35 yX2_cells, Cond.instanceMethod yX2_cells, Cond.selects RX2 yX2_cells yX2_cells, Cond.code yX2_cells cX2_cells 1 (some .int), Cond.static yX5_isHalf, Cond.code yX5_isHalf cX5_isHalf 1 (some .boolean), Cond.static yX5_turnedBy, Cond.code yX5_turnedBy cX5_turnedBy 3 (some .int), Cond.static yX5_letsOn]
def wsX5_lost_r3 : List Cond := [Cond.code yX5_letsOn cX5_letsOn 1 (some .boolean), Cond.methodLink RX5 209 yX5_isHalf, Cond.static yX5_turnsBeam, Cond.code yX5_turnsBeam cX5_turnsBeam 1 (some .boolean), Cond.methodLink RX0 92 yX2_beyond, Cond.instanceMethod yX2_beyond, Cond.selects RX2 yX2_beyond yX2_beyond, Cond.code yX2_beyond cX2_beyond 5 (some .int), Cond.methodLink RX0 59 yX0_findSplits, Cond.instanceMethod yX0_findSplits, Cond.selects RX0 yX0_findSplits yX0_findSplits, Cond.code yX0_findSplits cX0_findSplits 6 none, Cond.fieldLink RX0 15 "MirrorShares$Beam" "splitNumber" "[I", Cond.fieldLink RX0 30 "MirrorShares$Beam" "splits" "I", Cond.fieldLink RX0 11 "MirrorShares$Beam" "splitPlace" "[I", Cond.fieldLink RX0 18 "MirrorShares$Beam" "rayEnd" "[I", Cond.methodLink RX0 73 yJ7_fill_53178, Cond.static yJ7_fill_53178, Cond.initialized RJ7, Cond.code yJ7_fill_53178 cJ7_fill_53178 4 none, Cond.methodLink RX0 79 yX0_noteSplit, Cond.instanceMethod yX0_noteSplit, Cond.selects RX0 yX0_noteSplit yX0_noteSplit, Cond.code yX0_noteSplit cX0_noteSplit 2 none]
def wsX5_lost_r4 : List Cond := [Cond.methodLink RX0 82 yX0_endBeyond, Cond.static yX0_endBeyond, Cond.code yX0_endBeyond cX0_endBeyond 4 (some .int), Cond.methodLink RX0 63 yX0_setRows, Cond.instanceMethod yX0_setRows, Cond.selects RX0 yX0_setRows yX0_setRows, Cond.code yX0_setRows cX0_setRows 4 none, Cond.fieldLink RX0 23 "MirrorShares$Beam" "rows" "[[J", Cond.constantLong RX0 108 (2), Cond.methodLink RX0 105 yJ7_fill_d0a16, Cond.static yJ7_fill_d0a16, Cond.code yJ7_fill_d0a16 cJ7_fill_d0a16 5 none, Cond.methodLink RX0 66 yX0_solveRows, Cond.instanceMethod yX0_solveRows, Cond.selects RX0 yX0_solveRows yX0_solveRows, Cond.code yX0_solveRows cX0_solveRows 5 none, Cond.fieldLink RX0 34 "MirrorShares$Beam" "whole" "J", Cond.methodLink RX0 110 yX0_clearColumn, Cond.instanceMethod yX0_clearColumn, Cond.selects RX0 yX0_clearColumn yX0_clearColumn, Cond.code yX0_clearColumn cX0_clearColumn 7 none, Cond.methodLink RX0 69 yX0_addParts, Cond.instanceMethod yX0_addParts, Cond.selects RX0 yX0_addParts yX0_addParts]
def wsX5_lost_r5 : List Cond := [Cond.code yX0_addParts cX0_addParts 3 none, Cond.fieldLink RX0 26 "MirrorShares$Beam" "parts" "[J", Cond.methodLink RX0 114 yX0_addPart, Cond.instanceMethod yX0_addPart, Cond.selects RX0 yX0_addPart yX0_addPart, Cond.code yX0_addPart cX0_addPart 4 none, Cond.methodLink RX5 158 yX0_swallowed, Cond.instanceMethod yX0_swallowed, Cond.selects RX0 yX0_swallowed yX0_swallowed, Cond.code yX0_swallowed cX0_swallowed 1 (some .long), Cond.methodLink RX5 162 yX0_caught, Cond.instanceMethod yX0_caught, Cond.selects RX0 yX0_caught yX0_caught, Cond.code yX0_caught cX0_caught 4 (some .long), Cond.methodLink RX0 38 yX0_swallowed, Cond.methodLink RX0 42 yX0_outAt, Cond.instanceMethod yX0_outAt, Cond.selects RX0 yX0_outAt yX0_outAt, Cond.code yX0_outAt cX0_outAt 2 (some .long), Cond.methodLink RX5 154 yX5_lowest, Cond.static yX5_lowest, Cond.code yX5_lowest cX5_lowest 7 (some .int), Cond.methodLink RX5 204 yX5_commonDivisor, Cond.static yX5_commonDivisor]
def wsX5_lost_r6 : List Cond := [Cond.code yX5_commonDivisor cX5_commonDivisor 11 (some .long)]
def wsX5_lost : List Cond := .code yX5_lost cX5_lost 3 (some .int) :: ((wsX5_lost_r1 ++ (wsX5_lost_r2 ++ (wsX5_lost_r3 ++ (wsX5_lost_r4 ++ (wsX5_lost_r5 ++ wsX5_lost_r6))))) ++ wsX50 ++ wsX00 ++ wsX20)
def wsX5_floatBits : List Cond := .code yX5_floatBits cX5_floatBits 6 (some .int) :: ([.constantFloat RX5 208 (1258291200)])
def wsX5_bits_r1 : List Cond := [Cond.fieldLink RX5 43 "MirrorShares" "beam" "LMirrorShares$Beam;", Cond.fieldLink RX5 19 "MirrorShares" "room" "LMirrorShares$Room;", Cond.methodLink RX5 139 yX5_hasPorts, Cond.instanceMethod yX5_hasPorts, Cond.selects RX5 yX5_hasPorts yX5_hasPorts, Cond.initialized RX5, Cond.code yX5_hasPorts cX5_hasPorts 3 (some .boolean), Cond.methodLink RX5 129 yX2_hasPort, Cond.instanceMethod yX2_hasPort, Cond.selects RX2 yX2_hasPort yX2_hasPort, Cond.initialized RX2, Cond.code yX2_hasPort cX2_hasPort 2 (some .boolean), Cond.methodLink RX2 31 yX2_ports, Cond.instanceMethod yX2_ports, Cond.selects RX2 yX2_ports yX2_ports, Cond.code yX2_ports cX2_ports 1 (some .int), Cond.fieldLink RX2 15 "MirrorShares$Room" "columns" "I", Cond.fieldLink RX2 19 "MirrorShares$Room" "rows" "I", Cond.methodLink RX5 142 yX0_shine, Cond.instanceMethod yX0_shine, Cond.selects RX0 yX0_shine yX0_shine, Cond.initialized RX0, Cond.code yX0_shine cX0_shine 4 none, Cond.methodLink RX0 46 yX2_portCell]
def wsX5_bits_r2 : List Cond := [Cond.instanceMethod yX2_portCell, Cond.selects RX2 yX2_portCell yX2_portCell, Cond.code yX2_portCell cX2_portCell 2 (some .int), Cond.methodLink RX2 46 yX2_portDirection, Cond.instanceMethod yX2_portDirection, Cond.selects RX2 yX2_portDirection yX2_portDirection, Cond.code yX2_portDirection cX2_portDirection 2 (some .int), Cond.methodLink RX0 52 yX2_portDirection, Cond.methodLink RX0 55 yX0_endOf, Cond.static yX0_endOf, Cond.code yX0_endOf cX0_endOf 8 (some .int), Cond.methodLink RX0 85 yX2_kindAt, Cond.instanceMethod yX2_kindAt, Cond.selects RX2 yX2_kindAt yX2_kindAt, Cond.code yX2_kindAt cX2_kindAt 2 (some .int), Cond.fieldLink RX2 9 "MirrorShares$Room" "kinds" "[I", Cond.methodLink RX2 35 yX2_cells, Cond.instanceMethod yX2_cells, Cond.selects RX2 yX2_cells yX2_cells, Cond.code yX2_cells cX2_cells 1 (some .int), Cond.static yX5_isHalf, Cond.code yX5_isHalf cX5_isHalf 1 (some .boolean), Cond.static yX5_turnedBy, Cond.code yX5_turnedBy cX5_turnedBy 3 (some .int)]
def wsX5_bits_r3 : List Cond := [Cond.static yX5_letsOn, Cond.code yX5_letsOn cX5_letsOn 1 (some .boolean), Cond.methodLink RX5 209 yX5_isHalf, Cond.static yX5_turnsBeam, Cond.code yX5_turnsBeam cX5_turnsBeam 1 (some .boolean), Cond.methodLink RX0 92 yX2_beyond, Cond.instanceMethod yX2_beyond, Cond.selects RX2 yX2_beyond yX2_beyond, Cond.code yX2_beyond cX2_beyond 5 (some .int), Cond.methodLink RX0 59 yX0_findSplits, Cond.instanceMethod yX0_findSplits, Cond.selects RX0 yX0_findSplits yX0_findSplits, Cond.code yX0_findSplits cX0_findSplits 6 none, Cond.fieldLink RX0 15 "MirrorShares$Beam" "splitNumber" "[I", Cond.fieldLink RX0 30 "MirrorShares$Beam" "splits" "I", Cond.fieldLink RX0 11 "MirrorShares$Beam" "splitPlace" "[I", Cond.fieldLink RX0 18 "MirrorShares$Beam" "rayEnd" "[I", Cond.methodLink RX0 73 yJ7_fill_53178, Cond.static yJ7_fill_53178, Cond.initialized RJ7, Cond.code yJ7_fill_53178 cJ7_fill_53178 4 none, Cond.methodLink RX0 79 yX0_noteSplit, Cond.instanceMethod yX0_noteSplit, Cond.selects RX0 yX0_noteSplit yX0_noteSplit]
def wsX5_bits_r4 : List Cond := [Cond.code yX0_noteSplit cX0_noteSplit 2 none, Cond.methodLink RX0 82 yX0_endBeyond, Cond.static yX0_endBeyond, Cond.code yX0_endBeyond cX0_endBeyond 4 (some .int), Cond.methodLink RX0 63 yX0_setRows, Cond.instanceMethod yX0_setRows, Cond.selects RX0 yX0_setRows yX0_setRows, Cond.code yX0_setRows cX0_setRows 4 none, Cond.fieldLink RX0 23 "MirrorShares$Beam" "rows" "[[J", Cond.constantLong RX0 108 (2), Cond.methodLink RX0 105 yJ7_fill_d0a16, Cond.static yJ7_fill_d0a16, Cond.code yJ7_fill_d0a16 cJ7_fill_d0a16 5 none, Cond.methodLink RX0 66 yX0_solveRows, Cond.instanceMethod yX0_solveRows, Cond.selects RX0 yX0_solveRows yX0_solveRows, Cond.code yX0_solveRows cX0_solveRows 5 none, Cond.fieldLink RX0 34 "MirrorShares$Beam" "whole" "J", Cond.methodLink RX0 110 yX0_clearColumn, Cond.instanceMethod yX0_clearColumn, Cond.selects RX0 yX0_clearColumn yX0_clearColumn, Cond.code yX0_clearColumn cX0_clearColumn 7 none, Cond.methodLink RX0 69 yX0_addParts, Cond.instanceMethod yX0_addParts]
def wsX5_bits_r5 : List Cond := [Cond.selects RX0 yX0_addParts yX0_addParts, Cond.code yX0_addParts cX0_addParts 3 none, Cond.fieldLink RX0 26 "MirrorShares$Beam" "parts" "[J", Cond.methodLink RX0 114 yX0_addPart, Cond.instanceMethod yX0_addPart, Cond.selects RX0 yX0_addPart yX0_addPart, Cond.code yX0_addPart cX0_addPart 4 none, Cond.methodLink RX5 146 yX0_outAt, Cond.instanceMethod yX0_outAt, Cond.selects RX0 yX0_outAt yX0_outAt, Cond.code yX0_outAt cX0_outAt 2 (some .long), Cond.methodLink RX5 154 yX5_lowest, Cond.static yX5_lowest, Cond.code yX5_lowest cX5_lowest 7 (some .int), Cond.methodLink RX5 204 yX5_commonDivisor, Cond.static yX5_commonDivisor, Cond.code yX5_commonDivisor cX5_commonDivisor 11 (some .long), Cond.methodLink RX5 165 yX5_floatBits, Cond.static yX5_floatBits, Cond.code yX5_floatBits cX5_floatBits 6 (some .int), Cond.constantFloat RX5 208 (1258291200)]
def wsX5_bits : List Cond := .code yX5_bits cX5_bits 5 (some .int) :: ((wsX5_bits_r1 ++ (wsX5_bits_r2 ++ (wsX5_bits_r3 ++ (wsX5_bits_r4 ++ wsX5_bits_r5)))) ++ wsX50 ++ wsX00 ++ wsX20)
def wsX5_lit_r1 : List Cond := [Cond.fieldLink RX5 19 "MirrorShares" "room" "LMirrorShares$Room;", Cond.fieldLink RX5 36 "MirrorShares" "walk" "LMirrorShares$Walk;", Cond.methodLink RX5 129 yX2_hasPort, Cond.instanceMethod yX2_hasPort, Cond.selects RX2 yX2_hasPort yX2_hasPort, Cond.initialized RX2, Cond.code yX2_hasPort cX2_hasPort 2 (some .boolean), Cond.methodLink RX2 31 yX2_ports, Cond.instanceMethod yX2_ports, Cond.selects RX2 yX2_ports yX2_ports, Cond.code yX2_ports cX2_ports 1 (some .int), Cond.fieldLink RX2 15 "MirrorShares$Room" "columns" "I", Cond.fieldLink RX2 19 "MirrorShares$Room" "rows" "I", Cond.methodLink RX5 168 yX4_goFrom, Cond.instanceMethod yX4_goFrom, Cond.selects RX4 yX4_goFrom yX4_goFrom, Cond.initialized RX4, Cond.code yX4_goFrom cX4_goFrom 4 none, Cond.fieldLink RX4 15 "MirrorShares$Walk" "cellsTo" "[I", Cond.fieldLink RX4 18 "MirrorShares$Walk" "cellsToPort" "[I", Cond.fieldLink RX4 21 "MirrorShares$Walk" "waiting" "I", Cond.fieldLink RX4 25 "MirrorShares$Walk" "litCells" "I", Cond.fieldLink RX4 11 "MirrorShares$Walk" "queue" "[I", Cond.methodLink RX4 28 yJ7_fill_53178]
def wsX5_lit_r2 : List Cond := [Cond.static yJ7_fill_53178, Cond.initialized RJ7, Cond.code yJ7_fill_53178 cJ7_fill_53178 4 none, Cond.methodLink RX4 34 yX2_portCell, Cond.instanceMethod yX2_portCell, Cond.selects RX2 yX2_portCell yX2_portCell, Cond.code yX2_portCell cX2_portCell 2 (some .int), Cond.methodLink RX2 46 yX2_portDirection, Cond.instanceMethod yX2_portDirection, Cond.selects RX2 yX2_portDirection yX2_portDirection, Cond.code yX2_portDirection cX2_portDirection 2 (some .int), Cond.methodLink RX4 40 yX2_portDirection, Cond.methodLink RX4 43 yX4_enter, Cond.instanceMethod yX4_enter, Cond.selects RX4 yX4_enter yX4_enter, Cond.code yX4_enter cX4_enter 5 none, Cond.methodLink RX4 47 yX4_spread, Cond.instanceMethod yX4_spread, Cond.selects RX4 yX4_spread yX4_spread, Cond.code yX4_spread cX4_spread 7 none, Cond.methodLink RX4 51 yX2_kindAt, Cond.instanceMethod yX2_kindAt, Cond.selects RX2 yX2_kindAt yX2_kindAt, Cond.code yX2_kindAt cX2_kindAt 2 (some .int)]
def wsX5_lit_r3 : List Cond := [Cond.fieldLink RX2 9 "MirrorShares$Room" "kinds" "[I", Cond.methodLink RX2 35 yX2_cells, Cond.instanceMethod yX2_cells, Cond.selects RX2 yX2_cells yX2_cells, Cond.code yX2_cells cX2_cells 1 (some .int), Cond.static yX5_letsOn, Cond.initialized RX5, Cond.code yX5_letsOn cX5_letsOn 1 (some .boolean), Cond.methodLink RX5 209 yX5_isHalf, Cond.static yX5_isHalf, Cond.code yX5_isHalf cX5_isHalf 1 (some .boolean), Cond.methodLink RX4 58 yX4_leave, Cond.instanceMethod yX4_leave, Cond.selects RX4 yX4_leave yX4_leave, Cond.code yX4_leave cX4_leave 6 none, Cond.methodLink RX4 69 yX2_beyond, Cond.instanceMethod yX2_beyond, Cond.selects RX2 yX2_beyond yX2_beyond, Cond.code yX2_beyond cX2_beyond 5 (some .int), Cond.methodLink RX4 72 yX4_reach, Cond.instanceMethod yX4_reach, Cond.selects RX4 yX4_reach yX4_reach, Cond.code yX4_reach cX4_reach 3 none, Cond.static yX5_turnsBeam]
def wsX5_lit_r4 : List Cond := [Cond.code yX5_turnsBeam cX5_turnsBeam 1 (some .boolean), Cond.static yX5_turnedBy, Cond.code yX5_turnedBy cX5_turnedBy 3 (some .int)]
def wsX5_lit : List Cond := .code yX5_lit cX5_lit 2 (some .int) :: ((wsX5_lit_r1 ++ (wsX5_lit_r2 ++ (wsX5_lit_r3 ++ wsX5_lit_r4))) ++ wsX50 ++ wsX40 ++ wsX20)
def wsX5_far_r1 : List Cond := [Cond.fieldLink RX5 36 "MirrorShares" "walk" "LMirrorShares$Walk;", Cond.fieldLink RX5 19 "MirrorShares" "room" "LMirrorShares$Room;", Cond.methodLink RX5 139 yX5_hasPorts, Cond.instanceMethod yX5_hasPorts, Cond.selects RX5 yX5_hasPorts yX5_hasPorts, Cond.initialized RX5, Cond.code yX5_hasPorts cX5_hasPorts 3 (some .boolean), Cond.methodLink RX5 129 yX2_hasPort, Cond.instanceMethod yX2_hasPort, Cond.selects RX2 yX2_hasPort yX2_hasPort, Cond.initialized RX2, Cond.code yX2_hasPort cX2_hasPort 2 (some .boolean), Cond.methodLink RX2 31 yX2_ports, Cond.instanceMethod yX2_ports, Cond.selects RX2 yX2_ports yX2_ports, Cond.code yX2_ports cX2_ports 1 (some .int), Cond.fieldLink RX2 15 "MirrorShares$Room" "columns" "I", Cond.fieldLink RX2 19 "MirrorShares$Room" "rows" "I", Cond.methodLink RX5 168 yX4_goFrom, Cond.instanceMethod yX4_goFrom, Cond.selects RX4 yX4_goFrom yX4_goFrom, Cond.initialized RX4, Cond.code yX4_goFrom cX4_goFrom 4 none, Cond.fieldLink RX4 15 "MirrorShares$Walk" "cellsTo" "[I"]
def wsX5_far_r2 : List Cond := [Cond.fieldLink RX4 18 "MirrorShares$Walk" "cellsToPort" "[I", Cond.fieldLink RX4 21 "MirrorShares$Walk" "waiting" "I", Cond.fieldLink RX4 25 "MirrorShares$Walk" "litCells" "I", Cond.fieldLink RX4 11 "MirrorShares$Walk" "queue" "[I", Cond.methodLink RX4 28 yJ7_fill_53178, Cond.static yJ7_fill_53178, Cond.initialized RJ7, Cond.code yJ7_fill_53178 cJ7_fill_53178 4 none, Cond.methodLink RX4 34 yX2_portCell, Cond.instanceMethod yX2_portCell, Cond.selects RX2 yX2_portCell yX2_portCell, Cond.code yX2_portCell cX2_portCell 2 (some .int), Cond.methodLink RX2 46 yX2_portDirection, Cond.instanceMethod yX2_portDirection, Cond.selects RX2 yX2_portDirection yX2_portDirection, Cond.code yX2_portDirection cX2_portDirection 2 (some .int), Cond.methodLink RX4 40 yX2_portDirection, Cond.methodLink RX4 43 yX4_enter, Cond.instanceMethod yX4_enter, Cond.selects RX4 yX4_enter yX4_enter, Cond.code yX4_enter cX4_enter 5 none, Cond.methodLink RX4 47 yX4_spread, Cond.instanceMethod yX4_spread, Cond.selects RX4 yX4_spread yX4_spread]
def wsX5_far_r3 : List Cond := [Cond.code yX4_spread cX4_spread 7 none, Cond.methodLink RX4 51 yX2_kindAt, Cond.instanceMethod yX2_kindAt, Cond.selects RX2 yX2_kindAt yX2_kindAt, Cond.code yX2_kindAt cX2_kindAt 2 (some .int), Cond.fieldLink RX2 9 "MirrorShares$Room" "kinds" "[I", Cond.methodLink RX2 35 yX2_cells, Cond.instanceMethod yX2_cells, Cond.selects RX2 yX2_cells yX2_cells, Cond.code yX2_cells cX2_cells 1 (some .int), Cond.static yX5_letsOn, Cond.code yX5_letsOn cX5_letsOn 1 (some .boolean), Cond.methodLink RX5 209 yX5_isHalf, Cond.static yX5_isHalf, Cond.code yX5_isHalf cX5_isHalf 1 (some .boolean), Cond.methodLink RX4 58 yX4_leave, Cond.instanceMethod yX4_leave, Cond.selects RX4 yX4_leave yX4_leave, Cond.code yX4_leave cX4_leave 6 none, Cond.methodLink RX4 69 yX2_beyond, Cond.instanceMethod yX2_beyond, Cond.selects RX2 yX2_beyond yX2_beyond, Cond.code yX2_beyond cX2_beyond 5 (some .int), Cond.methodLink RX4 72 yX4_reach]
def wsX5_far_r4 : List Cond := [Cond.instanceMethod yX4_reach, Cond.selects RX4 yX4_reach yX4_reach, Cond.code yX4_reach cX4_reach 3 none, Cond.static yX5_turnsBeam, Cond.code yX5_turnsBeam cX5_turnsBeam 1 (some .boolean), Cond.static yX5_turnedBy, Cond.code yX5_turnedBy cX5_turnedBy 3 (some .int), Cond.methodLink RX5 174 yX4_fewestTo, Cond.instanceMethod yX4_fewestTo, Cond.selects RX4 yX4_fewestTo yX4_fewestTo, Cond.code yX4_fewestTo cX4_fewestTo 2 (some .int)]
def wsX5_far : List Cond := .code yX5_far cX5_far 3 (some .int) :: ((wsX5_far_r1 ++ (wsX5_far_r2 ++ (wsX5_far_r3 ++ wsX5_far_r4))) ++ wsX50 ++ wsX20 ++ wsX40)
def wsJ13_compare_74951 : List Cond := .code yJ13_compare_74951 cJ13_compare_74951 4 (some .int) :: ([])
def wsX5_compareFractions : List Cond := .code yX5_compareFractions cX5_compareFractions 8 (some .int) :: ([.methodLink RX5 198 yJ13_compare_74951, .static yJ13_compare_74951, .initialized RJ13, .code yJ13_compare_74951 cJ13_compare_74951 4 (some .int)])
def wsX5_alike_r1 : List Cond := [Cond.fieldLink RX5 43 "MirrorShares" "beam" "LMirrorShares$Beam;", Cond.fieldLink RX5 19 "MirrorShares" "room" "LMirrorShares$Room;", Cond.methodLink RX5 139 yX5_hasPorts, Cond.instanceMethod yX5_hasPorts, Cond.selects RX5 yX5_hasPorts yX5_hasPorts, Cond.initialized RX5, Cond.code yX5_hasPorts cX5_hasPorts 3 (some .boolean), Cond.methodLink RX5 129 yX2_hasPort, Cond.instanceMethod yX2_hasPort, Cond.selects RX2 yX2_hasPort yX2_hasPort, Cond.initialized RX2, Cond.code yX2_hasPort cX2_hasPort 2 (some .boolean), Cond.methodLink RX2 31 yX2_ports, Cond.instanceMethod yX2_ports, Cond.selects RX2 yX2_ports yX2_ports, Cond.code yX2_ports cX2_ports 1 (some .int), Cond.fieldLink RX2 15 "MirrorShares$Room" "columns" "I", Cond.fieldLink RX2 19 "MirrorShares$Room" "rows" "I", Cond.methodLink RX5 142 yX0_shine, Cond.instanceMethod yX0_shine, Cond.selects RX0 yX0_shine yX0_shine, Cond.initialized RX0, Cond.code yX0_shine cX0_shine 4 none, Cond.methodLink RX0 46 yX2_portCell]
def wsX5_alike_r2 : List Cond := [Cond.instanceMethod yX2_portCell, Cond.selects RX2 yX2_portCell yX2_portCell, Cond.code yX2_portCell cX2_portCell 2 (some .int), Cond.methodLink RX2 46 yX2_portDirection, Cond.instanceMethod yX2_portDirection, Cond.selects RX2 yX2_portDirection yX2_portDirection, Cond.code yX2_portDirection cX2_portDirection 2 (some .int), Cond.methodLink RX0 52 yX2_portDirection, Cond.methodLink RX0 55 yX0_endOf, Cond.static yX0_endOf, Cond.code yX0_endOf cX0_endOf 8 (some .int), Cond.methodLink RX0 85 yX2_kindAt, Cond.instanceMethod yX2_kindAt, Cond.selects RX2 yX2_kindAt yX2_kindAt, Cond.code yX2_kindAt cX2_kindAt 2 (some .int), Cond.fieldLink RX2 9 "MirrorShares$Room" "kinds" "[I", Cond.methodLink RX2 35 yX2_cells, Cond.instanceMethod yX2_cells, Cond.selects RX2 yX2_cells yX2_cells, Cond.code yX2_cells cX2_cells 1 (some .int), Cond.static yX5_isHalf, Cond.code yX5_isHalf cX5_isHalf 1 (some .boolean), Cond.static yX5_turnedBy, Cond.code yX5_turnedBy cX5_turnedBy 3 (some .int)]
def wsX5_alike_r3 : List Cond := [Cond.static yX5_letsOn, Cond.code yX5_letsOn cX5_letsOn 1 (some .boolean), Cond.methodLink RX5 209 yX5_isHalf, Cond.static yX5_turnsBeam, Cond.code yX5_turnsBeam cX5_turnsBeam 1 (some .boolean), Cond.methodLink RX0 92 yX2_beyond, Cond.instanceMethod yX2_beyond, Cond.selects RX2 yX2_beyond yX2_beyond, Cond.code yX2_beyond cX2_beyond 5 (some .int), Cond.methodLink RX0 59 yX0_findSplits, Cond.instanceMethod yX0_findSplits, Cond.selects RX0 yX0_findSplits yX0_findSplits, Cond.code yX0_findSplits cX0_findSplits 6 none, Cond.fieldLink RX0 15 "MirrorShares$Beam" "splitNumber" "[I", Cond.fieldLink RX0 30 "MirrorShares$Beam" "splits" "I", Cond.fieldLink RX0 11 "MirrorShares$Beam" "splitPlace" "[I", Cond.fieldLink RX0 18 "MirrorShares$Beam" "rayEnd" "[I", Cond.methodLink RX0 73 yJ7_fill_53178, Cond.static yJ7_fill_53178, Cond.initialized RJ7, Cond.code yJ7_fill_53178 cJ7_fill_53178 4 none, Cond.methodLink RX0 79 yX0_noteSplit, Cond.instanceMethod yX0_noteSplit, Cond.selects RX0 yX0_noteSplit yX0_noteSplit]
def wsX5_alike_r4 : List Cond := [Cond.code yX0_noteSplit cX0_noteSplit 2 none, Cond.methodLink RX0 82 yX0_endBeyond, Cond.static yX0_endBeyond, Cond.code yX0_endBeyond cX0_endBeyond 4 (some .int), Cond.methodLink RX0 63 yX0_setRows, Cond.instanceMethod yX0_setRows, Cond.selects RX0 yX0_setRows yX0_setRows, Cond.code yX0_setRows cX0_setRows 4 none, Cond.fieldLink RX0 23 "MirrorShares$Beam" "rows" "[[J", Cond.constantLong RX0 108 (2), Cond.methodLink RX0 105 yJ7_fill_d0a16, Cond.static yJ7_fill_d0a16, Cond.code yJ7_fill_d0a16 cJ7_fill_d0a16 5 none, Cond.methodLink RX0 66 yX0_solveRows, Cond.instanceMethod yX0_solveRows, Cond.selects RX0 yX0_solveRows yX0_solveRows, Cond.code yX0_solveRows cX0_solveRows 5 none, Cond.fieldLink RX0 34 "MirrorShares$Beam" "whole" "J", Cond.methodLink RX0 110 yX0_clearColumn, Cond.instanceMethod yX0_clearColumn, Cond.selects RX0 yX0_clearColumn yX0_clearColumn, Cond.code yX0_clearColumn cX0_clearColumn 7 none, Cond.methodLink RX0 69 yX0_addParts, Cond.instanceMethod yX0_addParts]
def wsX5_alike_r5 : List Cond := [Cond.selects RX0 yX0_addParts yX0_addParts, Cond.code yX0_addParts cX0_addParts 3 none, Cond.fieldLink RX0 26 "MirrorShares$Beam" "parts" "[J", Cond.methodLink RX0 114 yX0_addPart, Cond.instanceMethod yX0_addPart, Cond.selects RX0 yX0_addPart yX0_addPart, Cond.code yX0_addPart cX0_addPart 4 none, Cond.methodLink RX5 158 yX0_swallowed, Cond.instanceMethod yX0_swallowed, Cond.selects RX0 yX0_swallowed yX0_swallowed, Cond.code yX0_swallowed cX0_swallowed 1 (some .long), Cond.methodLink RX5 162 yX0_caught, Cond.instanceMethod yX0_caught, Cond.selects RX0 yX0_caught yX0_caught, Cond.code yX0_caught cX0_caught 4 (some .long), Cond.methodLink RX0 38 yX0_swallowed, Cond.methodLink RX0 42 yX0_outAt, Cond.instanceMethod yX0_outAt, Cond.selects RX0 yX0_outAt yX0_outAt, Cond.code yX0_outAt cX0_outAt 2 (some .long), Cond.methodLink RX5 177 yX5_compareFractions, Cond.static yX5_compareFractions, Cond.code yX5_compareFractions cX5_compareFractions 8 (some .int), Cond.methodLink RX5 198 yJ13_compare_74951]
def wsX5_alike_r6 : List Cond := [Cond.static yJ13_compare_74951, Cond.initialized RJ13, Cond.code yJ13_compare_74951 cJ13_compare_74951 4 (some .int)]
def wsX5_alike : List Cond := .code yX5_alike cX5_alike 10 (some .int) :: ((wsX5_alike_r1 ++ (wsX5_alike_r2 ++ (wsX5_alike_r3 ++ (wsX5_alike_r4 ++ (wsX5_alike_r5 ++ wsX5_alike_r6))))) ++ wsX50 ++ wsX00 ++ wsX20)
def wsX5_openOnly_r1 : List Cond := [Cond.fieldLink RX5 23 "MirrorShares" "trial" "LMirrorShares$Room;", Cond.fieldLink RX5 19 "MirrorShares" "room" "LMirrorShares$Room;", Cond.methodLink RX5 63 yX2_become, Cond.instanceMethod yX2_become, Cond.selects RX2 yX2_become yX2_become, Cond.initialized RX2, Cond.code yX2_become cX2_become 2 none, Cond.fieldLink RX2 15 "MirrorShares$Room" "columns" "I", Cond.fieldLink RX2 19 "MirrorShares$Room" "rows" "I", Cond.fieldLink RX2 9 "MirrorShares$Room" "kinds" "[I", Cond.methodLink RX2 25 arraycopyName, Cond.native arraycopyName, Cond.static arraycopyName, Cond.initialized "java/lang/System", Cond.methodLink RX5 88 yX2_doorCell, Cond.instanceMethod yX2_doorCell, Cond.selects RX2 yX2_doorCell yX2_doorCell, Cond.code yX2_doorCell cX2_doorCell 4 (some .int), Cond.methodLink RX2 35 yX2_cells, Cond.instanceMethod yX2_cells, Cond.selects RX2 yX2_cells yX2_cells, Cond.code yX2_cells cX2_cells 1 (some .int), Cond.methodLink RX2 38 yX2_kindAt, Cond.instanceMethod yX2_kindAt]
def wsX5_openOnly_r2 : List Cond := [Cond.selects RX2 yX2_kindAt yX2_kindAt, Cond.code yX2_kindAt cX2_kindAt 2 (some .int), Cond.methodLink RX5 120 yX2_tell, Cond.instanceMethod yX2_tell, Cond.selects RX2 yX2_tell yX2_tell, Cond.code yX2_tell cX2_tell 3 none]
def wsX5_openOnly : List Cond := .code yX5_openOnly cX5_openOnly 3 none :: ((wsX5_openOnly_r1 ++ wsX5_openOnly_r2) ++ wsX50 ++ wsX20)
def wsJ6_bitCount_0f7a4 : List Cond := .code yJ6_bitCount_0f7a4 cJ6_bitCount_0f7a4 1 (some .int) :: ([.constant RJ6 265 (1431655765), .constant RJ6 266 (858993459), .constant RJ6 267 (252645135)])
def wsX5_best_r1 : List Cond := [Cond.fieldLink RX5 19 "MirrorShares" "room" "LMirrorShares$Room;", Cond.constantLong RX5 181 (-1), Cond.fieldLink RX5 43 "MirrorShares" "beam" "LMirrorShares$Beam;", Cond.fieldLink RX5 23 "MirrorShares" "trial" "LMirrorShares$Room;", Cond.methodLink RX5 139 yX5_hasPorts, Cond.instanceMethod yX5_hasPorts, Cond.selects RX5 yX5_hasPorts yX5_hasPorts, Cond.initialized RX5, Cond.code yX5_hasPorts cX5_hasPorts 3 (some .boolean), Cond.methodLink RX5 129 yX2_hasPort, Cond.instanceMethod yX2_hasPort, Cond.selects RX2 yX2_hasPort yX2_hasPort, Cond.initialized RX2, Cond.code yX2_hasPort cX2_hasPort 2 (some .boolean), Cond.methodLink RX2 31 yX2_ports, Cond.instanceMethod yX2_ports, Cond.selects RX2 yX2_ports yX2_ports, Cond.code yX2_ports cX2_ports 1 (some .int), Cond.fieldLink RX2 15 "MirrorShares$Room" "columns" "I", Cond.fieldLink RX2 19 "MirrorShares$Room" "rows" "I", Cond.methodLink RX5 91 yX5_isPart, Cond.static yX5_isPart, Cond.code yX5_isPart cX5_isPart 2 (some .boolean), Cond.methodLink RX5 95 yX2_countKinds]
def wsX5_best_r2 : List Cond := [Cond.instanceMethod yX2_countKinds, Cond.selects RX2 yX2_countKinds yX2_countKinds, Cond.code yX2_countKinds cX2_countKinds 6 (some .int), Cond.methodLink RX2 35 yX2_cells, Cond.instanceMethod yX2_cells, Cond.selects RX2 yX2_cells yX2_cells, Cond.code yX2_cells cX2_cells 1 (some .int), Cond.methodLink RX2 38 yX2_kindAt, Cond.instanceMethod yX2_kindAt, Cond.selects RX2 yX2_kindAt yX2_kindAt, Cond.code yX2_kindAt cX2_kindAt 2 (some .int), Cond.fieldLink RX2 9 "MirrorShares$Room" "kinds" "[I", Cond.methodLink RX5 183 yX5_openOnly, Cond.instanceMethod yX5_openOnly, Cond.selects RX5 yX5_openOnly yX5_openOnly, Cond.code yX5_openOnly cX5_openOnly 3 none, Cond.methodLink RX5 63 yX2_become, Cond.instanceMethod yX2_become, Cond.selects RX2 yX2_become yX2_become, Cond.code yX2_become cX2_become 2 none, Cond.methodLink RX2 25 arraycopyName, Cond.native arraycopyName, Cond.static arraycopyName, Cond.initialized "java/lang/System"]
def wsX5_best_r3 : List Cond := [Cond.methodLink RX5 88 yX2_doorCell, Cond.instanceMethod yX2_doorCell, Cond.selects RX2 yX2_doorCell yX2_doorCell, Cond.code yX2_doorCell cX2_doorCell 4 (some .int), Cond.methodLink RX5 120 yX2_tell, Cond.instanceMethod yX2_tell, Cond.selects RX2 yX2_tell yX2_tell, Cond.code yX2_tell cX2_tell 3 none, Cond.methodLink RX5 142 yX0_shine, Cond.instanceMethod yX0_shine, Cond.selects RX0 yX0_shine yX0_shine, Cond.initialized RX0, Cond.code yX0_shine cX0_shine 4 none, Cond.methodLink RX0 46 yX2_portCell, Cond.instanceMethod yX2_portCell, Cond.selects RX2 yX2_portCell yX2_portCell, Cond.code yX2_portCell cX2_portCell 2 (some .int), Cond.methodLink RX2 46 yX2_portDirection, Cond.instanceMethod yX2_portDirection, Cond.selects RX2 yX2_portDirection yX2_portDirection, Cond.code yX2_portDirection cX2_portDirection 2 (some .int), Cond.methodLink RX0 52 yX2_portDirection, Cond.methodLink RX0 55 yX0_endOf, Cond.static yX0_endOf]
def wsX5_best_r4 : List Cond := [Cond.code yX0_endOf cX0_endOf 8 (some .int), Cond.methodLink RX0 85 yX2_kindAt, Cond.static yX5_isHalf, Cond.code yX5_isHalf cX5_isHalf 1 (some .boolean), Cond.static yX5_turnedBy, Cond.code yX5_turnedBy cX5_turnedBy 3 (some .int), Cond.static yX5_letsOn, Cond.code yX5_letsOn cX5_letsOn 1 (some .boolean), Cond.methodLink RX5 209 yX5_isHalf, Cond.static yX5_turnsBeam, Cond.code yX5_turnsBeam cX5_turnsBeam 1 (some .boolean), Cond.methodLink RX0 92 yX2_beyond, Cond.instanceMethod yX2_beyond, Cond.selects RX2 yX2_beyond yX2_beyond, Cond.code yX2_beyond cX2_beyond 5 (some .int), Cond.methodLink RX0 59 yX0_findSplits, Cond.instanceMethod yX0_findSplits, Cond.selects RX0 yX0_findSplits yX0_findSplits, Cond.code yX0_findSplits cX0_findSplits 6 none, Cond.fieldLink RX0 15 "MirrorShares$Beam" "splitNumber" "[I", Cond.fieldLink RX0 30 "MirrorShares$Beam" "splits" "I", Cond.fieldLink RX0 11 "MirrorShares$Beam" "splitPlace" "[I", Cond.fieldLink RX0 18 "MirrorShares$Beam" "rayEnd" "[I", Cond.methodLink RX0 73 yJ7_fill_53178]
def wsX5_best_r5 : List Cond := [Cond.static yJ7_fill_53178, Cond.initialized RJ7, Cond.code yJ7_fill_53178 cJ7_fill_53178 4 none, Cond.methodLink RX0 79 yX0_noteSplit, Cond.instanceMethod yX0_noteSplit, Cond.selects RX0 yX0_noteSplit yX0_noteSplit, Cond.code yX0_noteSplit cX0_noteSplit 2 none, Cond.methodLink RX0 82 yX0_endBeyond, Cond.static yX0_endBeyond, Cond.code yX0_endBeyond cX0_endBeyond 4 (some .int), Cond.methodLink RX0 63 yX0_setRows, Cond.instanceMethod yX0_setRows, Cond.selects RX0 yX0_setRows yX0_setRows, Cond.code yX0_setRows cX0_setRows 4 none, Cond.fieldLink RX0 23 "MirrorShares$Beam" "rows" "[[J", Cond.constantLong RX0 108 (2), Cond.methodLink RX0 105 yJ7_fill_d0a16, Cond.static yJ7_fill_d0a16, Cond.code yJ7_fill_d0a16 cJ7_fill_d0a16 5 none, Cond.methodLink RX0 66 yX0_solveRows, Cond.instanceMethod yX0_solveRows, Cond.selects RX0 yX0_solveRows yX0_solveRows, Cond.code yX0_solveRows cX0_solveRows 5 none, Cond.fieldLink RX0 34 "MirrorShares$Beam" "whole" "J"]
def wsX5_best_r6 : List Cond := [Cond.methodLink RX0 110 yX0_clearColumn, Cond.instanceMethod yX0_clearColumn, Cond.selects RX0 yX0_clearColumn yX0_clearColumn, Cond.code yX0_clearColumn cX0_clearColumn 7 none, Cond.methodLink RX0 69 yX0_addParts, Cond.instanceMethod yX0_addParts, Cond.selects RX0 yX0_addParts yX0_addParts, Cond.code yX0_addParts cX0_addParts 3 none, Cond.fieldLink RX0 26 "MirrorShares$Beam" "parts" "[J", Cond.methodLink RX0 114 yX0_addPart, Cond.instanceMethod yX0_addPart, Cond.selects RX0 yX0_addPart yX0_addPart, Cond.code yX0_addPart cX0_addPart 4 none, Cond.methodLink RX5 146 yX0_outAt, Cond.instanceMethod yX0_outAt, Cond.selects RX0 yX0_outAt yX0_outAt, Cond.code yX0_outAt cX0_outAt 2 (some .long), Cond.methodLink RX5 177 yX5_compareFractions, Cond.static yX5_compareFractions, Cond.code yX5_compareFractions cX5_compareFractions 8 (some .int), Cond.methodLink RX5 198 yJ13_compare_74951, Cond.static yJ13_compare_74951, Cond.initialized RJ13, Cond.code yJ13_compare_74951 cJ13_compare_74951 4 (some .int)]
def wsX5_best_r7 : List Cond := [Cond.methodLink RX5 187 yJ6_bitCount_0f7a4, Cond.static yJ6_bitCount_0f7a4, Cond.initialized RJ6, Cond.code yJ6_bitCount_0f7a4 cJ6_bitCount_0f7a4 1 (some .int), Cond.constant RJ6 265 (1431655765), Cond.constant RJ6 266 (858993459), Cond.constant RJ6 267 (252645135), Cond.methodLink RX5 154 yX5_lowest, Cond.static yX5_lowest, Cond.code yX5_lowest cX5_lowest 7 (some .int), Cond.methodLink RX5 204 yX5_commonDivisor, Cond.static yX5_commonDivisor, Cond.code yX5_commonDivisor cX5_commonDivisor 11 (some .long)]
def wsX5_best : List Cond := .code yX5_best cX5_best 12 (some .int) :: ((wsX5_best_r1 ++ (wsX5_best_r2 ++ (wsX5_best_r3 ++ (wsX5_best_r4 ++ (wsX5_best_r5 ++ (wsX5_best_r6 ++ wsX5_best_r7)))))) ++ wsX50 ++ wsX00 ++ wsX20)
def wsX5_found_r1 : List Cond := [Cond.fieldLink RX5 19 "MirrorShares" "room" "LMirrorShares$Room;", Cond.fieldLink RX5 43 "MirrorShares" "beam" "LMirrorShares$Beam;", Cond.fieldLink RX5 23 "MirrorShares" "trial" "LMirrorShares$Room;", Cond.methodLink RX5 139 yX5_hasPorts, Cond.instanceMethod yX5_hasPorts, Cond.selects RX5 yX5_hasPorts yX5_hasPorts, Cond.initialized RX5, Cond.code yX5_hasPorts cX5_hasPorts 3 (some .boolean), Cond.methodLink RX5 129 yX2_hasPort, Cond.instanceMethod yX2_hasPort, Cond.selects RX2 yX2_hasPort yX2_hasPort, Cond.initialized RX2, Cond.code yX2_hasPort cX2_hasPort 2 (some .boolean), Cond.methodLink RX2 31 yX2_ports, Cond.instanceMethod yX2_ports, Cond.selects RX2 yX2_ports yX2_ports, Cond.code yX2_ports cX2_ports 1 (some .int), Cond.fieldLink RX2 15 "MirrorShares$Room" "columns" "I", Cond.fieldLink RX2 19 "MirrorShares$Room" "rows" "I", Cond.methodLink RX5 91 yX5_isPart, Cond.static yX5_isPart, Cond.code yX5_isPart cX5_isPart 2 (some .boolean), Cond.methodLink RX5 70 yX2_cells, Cond.instanceMethod yX2_cells]
def wsX5_found_r2 : List Cond := [Cond.selects RX2 yX2_cells yX2_cells, Cond.code yX2_cells cX2_cells 1 (some .int), Cond.methodLink RX5 73 yX2_kindAt, Cond.instanceMethod yX2_kindAt, Cond.selects RX2 yX2_kindAt yX2_kindAt, Cond.code yX2_kindAt cX2_kindAt 2 (some .int), Cond.fieldLink RX2 9 "MirrorShares$Room" "kinds" "[I", Cond.methodLink RX2 35 yX2_cells, Cond.methodLink RX5 76 yX5_tryCell, Cond.instanceMethod yX5_tryCell, Cond.selects RX5 yX5_tryCell yX5_tryCell, Cond.code yX5_tryCell cX5_tryCell 3 none, Cond.methodLink RX5 63 yX2_become, Cond.instanceMethod yX2_become, Cond.selects RX2 yX2_become yX2_become, Cond.code yX2_become cX2_become 2 none, Cond.methodLink RX2 25 arraycopyName, Cond.native arraycopyName, Cond.static arraycopyName, Cond.initialized "java/lang/System", Cond.methodLink RX5 120 yX2_tell, Cond.instanceMethod yX2_tell, Cond.selects RX2 yX2_tell yX2_tell, Cond.code yX2_tell cX2_tell 3 none]
def wsX5_found_r3 : List Cond := [Cond.methodLink RX5 142 yX0_shine, Cond.instanceMethod yX0_shine, Cond.selects RX0 yX0_shine yX0_shine, Cond.initialized RX0, Cond.code yX0_shine cX0_shine 4 none, Cond.methodLink RX0 46 yX2_portCell, Cond.instanceMethod yX2_portCell, Cond.selects RX2 yX2_portCell yX2_portCell, Cond.code yX2_portCell cX2_portCell 2 (some .int), Cond.methodLink RX2 46 yX2_portDirection, Cond.instanceMethod yX2_portDirection, Cond.selects RX2 yX2_portDirection yX2_portDirection, Cond.code yX2_portDirection cX2_portDirection 2 (some .int), Cond.methodLink RX0 52 yX2_portDirection, Cond.methodLink RX0 55 yX0_endOf, Cond.static yX0_endOf, Cond.code yX0_endOf cX0_endOf 8 (some .int), Cond.methodLink RX0 85 yX2_kindAt, Cond.static yX5_isHalf, Cond.code yX5_isHalf cX5_isHalf 1 (some .boolean), Cond.static yX5_turnedBy, Cond.code yX5_turnedBy cX5_turnedBy 3 (some .int), Cond.static yX5_letsOn, Cond.code yX5_letsOn cX5_letsOn 1 (some .boolean)]
def wsX5_found_r4 : List Cond := [Cond.methodLink RX5 209 yX5_isHalf, Cond.static yX5_turnsBeam, Cond.code yX5_turnsBeam cX5_turnsBeam 1 (some .boolean), Cond.methodLink RX0 92 yX2_beyond, Cond.instanceMethod yX2_beyond, Cond.selects RX2 yX2_beyond yX2_beyond, Cond.code yX2_beyond cX2_beyond 5 (some .int), Cond.methodLink RX0 59 yX0_findSplits, Cond.instanceMethod yX0_findSplits, Cond.selects RX0 yX0_findSplits yX0_findSplits, Cond.code yX0_findSplits cX0_findSplits 6 none, Cond.fieldLink RX0 15 "MirrorShares$Beam" "splitNumber" "[I", Cond.fieldLink RX0 30 "MirrorShares$Beam" "splits" "I", Cond.fieldLink RX0 11 "MirrorShares$Beam" "splitPlace" "[I", Cond.fieldLink RX0 18 "MirrorShares$Beam" "rayEnd" "[I", Cond.methodLink RX0 73 yJ7_fill_53178, Cond.static yJ7_fill_53178, Cond.initialized RJ7, Cond.code yJ7_fill_53178 cJ7_fill_53178 4 none, Cond.methodLink RX0 79 yX0_noteSplit, Cond.instanceMethod yX0_noteSplit, Cond.selects RX0 yX0_noteSplit yX0_noteSplit, Cond.code yX0_noteSplit cX0_noteSplit 2 none, Cond.methodLink RX0 82 yX0_endBeyond]
def wsX5_found_r5 : List Cond := [Cond.static yX0_endBeyond, Cond.code yX0_endBeyond cX0_endBeyond 4 (some .int), Cond.methodLink RX0 63 yX0_setRows, Cond.instanceMethod yX0_setRows, Cond.selects RX0 yX0_setRows yX0_setRows, Cond.code yX0_setRows cX0_setRows 4 none, Cond.fieldLink RX0 23 "MirrorShares$Beam" "rows" "[[J", Cond.constantLong RX0 108 (2), Cond.methodLink RX0 105 yJ7_fill_d0a16, Cond.static yJ7_fill_d0a16, Cond.code yJ7_fill_d0a16 cJ7_fill_d0a16 5 none, Cond.methodLink RX0 66 yX0_solveRows, Cond.instanceMethod yX0_solveRows, Cond.selects RX0 yX0_solveRows yX0_solveRows, Cond.code yX0_solveRows cX0_solveRows 5 none, Cond.fieldLink RX0 34 "MirrorShares$Beam" "whole" "J", Cond.methodLink RX0 110 yX0_clearColumn, Cond.instanceMethod yX0_clearColumn, Cond.selects RX0 yX0_clearColumn yX0_clearColumn, Cond.code yX0_clearColumn cX0_clearColumn 7 none, Cond.methodLink RX0 69 yX0_addParts, Cond.instanceMethod yX0_addParts, Cond.selects RX0 yX0_addParts yX0_addParts, Cond.code yX0_addParts cX0_addParts 3 none]
def wsX5_found_r6 : List Cond := [Cond.fieldLink RX0 26 "MirrorShares$Beam" "parts" "[J", Cond.methodLink RX0 114 yX0_addPart, Cond.instanceMethod yX0_addPart, Cond.selects RX0 yX0_addPart yX0_addPart, Cond.code yX0_addPart cX0_addPart 4 none, Cond.methodLink RX5 146 yX0_outAt, Cond.instanceMethod yX0_outAt, Cond.selects RX0 yX0_outAt yX0_outAt, Cond.code yX0_outAt cX0_outAt 2 (some .long), Cond.methodLink RX5 177 yX5_compareFractions, Cond.static yX5_compareFractions, Cond.code yX5_compareFractions cX5_compareFractions 8 (some .int), Cond.methodLink RX5 198 yJ13_compare_74951, Cond.static yJ13_compare_74951, Cond.initialized RJ13, Cond.code yJ13_compare_74951 cJ13_compare_74951 4 (some .int)]
def wsX5_found : List Cond := .code yX5_found cX5_found 9 (some .int) :: ((wsX5_found_r1 ++ (wsX5_found_r2 ++ (wsX5_found_r3 ++ (wsX5_found_r4 ++ (wsX5_found_r5 ++ wsX5_found_r6))))) ++ wsX50 ++ wsX00 ++ wsX20)
def wsX5_count : List Cond := .code yX5_count cX5_count 2 (some .int) :: ([.fieldLink RX5 19 "MirrorShares" "room" "LMirrorShares$Room;", .fieldLink RX5 29 "MirrorShares" "past" "LMirrorShares$Past;", .fieldLink RX5 12 "MirrorShares" "text" "LMirrorShares$Told;", .methodLink RX5 95 yX2_countKinds, .instanceMethod yX2_countKinds, .selects RX2 yX2_countKinds yX2_countKinds, .initialized RX2, .code yX2_countKinds cX2_countKinds 6 (some .int), .methodLink RX2 35 yX2_cells, .instanceMethod yX2_cells, .selects RX2 yX2_cells yX2_cells, .code yX2_cells cX2_cells 1 (some .int), .fieldLink RX2 15 "MirrorShares$Room" "columns" "I", .fieldLink RX2 19 "MirrorShares$Room" "rows" "I", .methodLink RX2 38 yX2_kindAt, .instanceMethod yX2_kindAt, .selects RX2 yX2_kindAt yX2_kindAt, .code yX2_kindAt cX2_kindAt 2 (some .int), .fieldLink RX2 9 "MirrorShares$Room" "kinds" "[I", .methodLink RX5 192 yX2_ports, .instanceMethod yX2_ports, .selects RX2 yX2_ports yX2_ports, .code yX2_ports cX2_ports 1 (some .int)] ++ wsX50 ++ wsX20 ++ wsX10 ++ wsX30)
def wsX6_init : List Cond := .code yX6_init cX6_init 1 none :: ([.methodLink RX6 1 objectInit, .instanceMethod objectInit, .code objectInit ⟨#[0xb1]⟩ 1 none, .arrayClass .int, .fieldLink RX6 7 "MirrorSharesModel" "now" "[I", .fieldLink RX6 13 "MirrorSharesModel" "read" "[I", .fieldLink RX6 16 "MirrorSharesModel" "aside" "[I", .fieldLink RX6 19 "MirrorSharesModel" "past" "[I", .fieldLink RX6 22 "MirrorSharesModel" "text" "[I", .fieldLink RX6 25 "MirrorSharesModel" "nodes" "[I", .fieldLink RX6 28 "MirrorSharesModel" "comes" "[I", .arrayClass .boolean, .fieldLink RX6 31 "MirrorSharesModel" "may" "[Z", .fieldLink RX6 35 "MirrorSharesModel" "place" "[I", .arrayClass .long, .fieldLink RX6 38 "MirrorSharesModel" "rows" "[J", .fieldLink RX6 42 "MirrorSharesModel" "line" "[I", .fieldLink RX6 45 "MirrorSharesModel" "took" "[I"] ++ wsX60)
def wsX6_in : List Cond := .code yX6_in cX6_in 3 (some .boolean) :: ([])
def wsX6_copies : List Cond := .code yX6_copies cX6_copies 5 none :: ([])
def wsX6_cells : List Cond := .code yX6_cells cX6_cells 1 (some .int) :: ([])
def wsX6_isHalf : List Cond := .code yX6_isHalf cX6_isHalf 1 (some .boolean) :: ([.methodLink RX6 48 yX6_in, .static yX6_in, .initialized RX6, .code yX6_in cX6_in 3 (some .boolean)])
def wsX6_isDoor : List Cond := .code yX6_isDoor cX6_isDoor 1 (some .boolean) :: ([.methodLink RX6 48 yX6_in, .static yX6_in, .initialized RX6, .code yX6_in cX6_in 3 (some .boolean)])
def wsX6_halves : List Cond := .code yX6_halves cX6_halves 3 (some .int) :: ([.methodLink RX6 52 yX6_cells, .static yX6_cells, .initialized RX6, .code yX6_cells cX6_cells 1 (some .int), .methodLink RX6 56 yX6_isHalf, .static yX6_isHalf, .code yX6_isHalf cX6_isHalf 1 (some .boolean), .methodLink RX6 48 yX6_in, .static yX6_in, .code yX6_in cX6_in 3 (some .boolean)])
def wsX6_doors : List Cond := .code yX6_doors cX6_doors 3 (some .int) :: ([.methodLink RX6 52 yX6_cells, .static yX6_cells, .initialized RX6, .code yX6_cells cX6_cells 1 (some .int), .methodLink RX6 60 yX6_isDoor, .static yX6_isDoor, .code yX6_isDoor cX6_isDoor 1 (some .boolean), .methodLink RX6 48 yX6_in, .static yX6_in, .code yX6_in cX6_in 3 (some .boolean)])
def wsX6_kindOf : List Cond := .code yX6_kindOf cX6_kindOf 1 (some .int) :: ([])
def wsX6_takesRow_r1 : List Cond := [Cond.fieldLink RX6 22 "MirrorSharesModel" "text" "[I", Cond.fieldLink RX6 63 "MirrorSharesModel" "spot" "I", Cond.fieldLink RX6 13 "MirrorSharesModel" "read" "[I", Cond.fieldLink RX6 67 "MirrorSharesModel" "letters" "I", Cond.methodLink RX6 70 yX6_kindOf, Cond.static yX6_kindOf, Cond.initialized RX6, Cond.code yX6_kindOf cX6_kindOf 1 (some .int), Cond.methodLink RX6 74 yX6_halves, Cond.static yX6_halves, Cond.code yX6_halves cX6_halves 3 (some .int), Cond.methodLink RX6 52 yX6_cells, Cond.static yX6_cells, Cond.code yX6_cells cX6_cells 1 (some .int), Cond.methodLink RX6 56 yX6_isHalf, Cond.static yX6_isHalf, Cond.code yX6_isHalf cX6_isHalf 1 (some .boolean), Cond.methodLink RX6 48 yX6_in, Cond.static yX6_in, Cond.code yX6_in cX6_in 3 (some .boolean), Cond.methodLink RX6 77 yX6_doors, Cond.static yX6_doors, Cond.code yX6_doors cX6_doors 3 (some .int), Cond.methodLink RX6 60 yX6_isDoor]
def wsX6_takesRow_r2 : List Cond := [Cond.static yX6_isDoor, Cond.code yX6_isDoor cX6_isDoor 1 (some .boolean)]
def wsX6_takesRow : List Cond := .code yX6_takesRow cX6_takesRow 4 (some .boolean) :: ((wsX6_takesRow_r1 ++ wsX6_takesRow_r2) ++ wsX60)
def wsX6_reads_r1 : List Cond := [Cond.fieldLink RX6 13 "MirrorSharesModel" "read" "[I", Cond.fieldLink RX6 63 "MirrorSharesModel" "spot" "I", Cond.fieldLink RX6 67 "MirrorSharesModel" "letters" "I", Cond.methodLink RX6 80 yX6_takesRow, Cond.instanceMethod yX6_takesRow, Cond.selects RX6 yX6_takesRow yX6_takesRow, Cond.initialized RX6, Cond.code yX6_takesRow cX6_takesRow 4 (some .boolean), Cond.fieldLink RX6 22 "MirrorSharesModel" "text" "[I", Cond.methodLink RX6 70 yX6_kindOf, Cond.static yX6_kindOf, Cond.code yX6_kindOf cX6_kindOf 1 (some .int), Cond.methodLink RX6 74 yX6_halves, Cond.static yX6_halves, Cond.code yX6_halves cX6_halves 3 (some .int), Cond.methodLink RX6 52 yX6_cells, Cond.static yX6_cells, Cond.code yX6_cells cX6_cells 1 (some .int), Cond.methodLink RX6 56 yX6_isHalf, Cond.static yX6_isHalf, Cond.code yX6_isHalf cX6_isHalf 1 (some .boolean), Cond.methodLink RX6 48 yX6_in, Cond.static yX6_in, Cond.code yX6_in cX6_in 3 (some .boolean)]
def wsX6_reads_r2 : List Cond := [Cond.methodLink RX6 77 yX6_doors, Cond.static yX6_doors, Cond.code yX6_doors cX6_doors 3 (some .int), Cond.methodLink RX6 60 yX6_isDoor, Cond.static yX6_isDoor, Cond.code yX6_isDoor cX6_isDoor 1 (some .boolean)]
def wsX6_reads : List Cond := .code yX6_reads cX6_reads 2 (some .int) :: ((wsX6_reads_r1 ++ wsX6_reads_r2) ++ wsX60)
def wsX6_write : List Cond := .code yX6_write cX6_write 2 (some .int) :: ([.fieldLink RX6 67 "MirrorSharesModel" "letters" "I", .fieldLink RX6 22 "MirrorSharesModel" "text" "[I", .methodLink RX6 48 yX6_in, .static yX6_in, .initialized RX6, .code yX6_in cX6_in 3 (some .boolean)] ++ wsX60)
def wsX6_wipe : List Cond := .code yX6_wipe cX6_wipe 2 (some .int) :: ([.fieldLink RX6 67 "MirrorSharesModel" "letters" "I"] ++ wsX60)
def wsX6_fault_r1 : List Cond := [Cond.methodLink RX6 84 yX6_reads, Cond.instanceMethod yX6_reads, Cond.selects RX6 yX6_reads yX6_reads, Cond.initialized RX6, Cond.code yX6_reads cX6_reads 2 (some .int), Cond.fieldLink RX6 13 "MirrorSharesModel" "read" "[I", Cond.fieldLink RX6 63 "MirrorSharesModel" "spot" "I", Cond.fieldLink RX6 67 "MirrorSharesModel" "letters" "I", Cond.methodLink RX6 80 yX6_takesRow, Cond.instanceMethod yX6_takesRow, Cond.selects RX6 yX6_takesRow yX6_takesRow, Cond.code yX6_takesRow cX6_takesRow 4 (some .boolean), Cond.fieldLink RX6 22 "MirrorSharesModel" "text" "[I", Cond.methodLink RX6 70 yX6_kindOf, Cond.static yX6_kindOf, Cond.code yX6_kindOf cX6_kindOf 1 (some .int), Cond.methodLink RX6 74 yX6_halves, Cond.static yX6_halves, Cond.code yX6_halves cX6_halves 3 (some .int), Cond.methodLink RX6 52 yX6_cells, Cond.static yX6_cells, Cond.code yX6_cells cX6_cells 1 (some .int), Cond.methodLink RX6 56 yX6_isHalf, Cond.static yX6_isHalf]
def wsX6_fault_r2 : List Cond := [Cond.code yX6_isHalf cX6_isHalf 1 (some .boolean), Cond.methodLink RX6 48 yX6_in, Cond.static yX6_in, Cond.code yX6_in cX6_in 3 (some .boolean), Cond.methodLink RX6 77 yX6_doors, Cond.static yX6_doors, Cond.code yX6_doors cX6_doors 3 (some .int), Cond.methodLink RX6 60 yX6_isDoor, Cond.static yX6_isDoor, Cond.code yX6_isDoor cX6_isDoor 1 (some .boolean)]
def wsX6_fault : List Cond := .code yX6_fault cX6_fault 1 (some .int) :: ((wsX6_fault_r1 ++ wsX6_fault_r2) ++ wsX60)
def wsX6_lay_r1 : List Cond := [Cond.fieldLink RX6 13 "MirrorSharesModel" "read" "[I", Cond.fieldLink RX6 7 "MirrorSharesModel" "now" "[I", Cond.fieldLink RX6 92 "MirrorSharesModel" "changes" "I", Cond.methodLink RX6 84 yX6_reads, Cond.instanceMethod yX6_reads, Cond.selects RX6 yX6_reads yX6_reads, Cond.initialized RX6, Cond.code yX6_reads cX6_reads 2 (some .int), Cond.fieldLink RX6 63 "MirrorSharesModel" "spot" "I", Cond.fieldLink RX6 67 "MirrorSharesModel" "letters" "I", Cond.methodLink RX6 80 yX6_takesRow, Cond.instanceMethod yX6_takesRow, Cond.selects RX6 yX6_takesRow yX6_takesRow, Cond.code yX6_takesRow cX6_takesRow 4 (some .boolean), Cond.fieldLink RX6 22 "MirrorSharesModel" "text" "[I", Cond.methodLink RX6 70 yX6_kindOf, Cond.static yX6_kindOf, Cond.code yX6_kindOf cX6_kindOf 1 (some .int), Cond.methodLink RX6 74 yX6_halves, Cond.static yX6_halves, Cond.code yX6_halves cX6_halves 3 (some .int), Cond.methodLink RX6 52 yX6_cells, Cond.static yX6_cells, Cond.code yX6_cells cX6_cells 1 (some .int)]
def wsX6_lay_r2 : List Cond := [Cond.methodLink RX6 56 yX6_isHalf, Cond.static yX6_isHalf, Cond.code yX6_isHalf cX6_isHalf 1 (some .boolean), Cond.methodLink RX6 48 yX6_in, Cond.static yX6_in, Cond.code yX6_in cX6_in 3 (some .boolean), Cond.methodLink RX6 77 yX6_doors, Cond.static yX6_doors, Cond.code yX6_doors cX6_doors 3 (some .int), Cond.methodLink RX6 60 yX6_isDoor, Cond.static yX6_isDoor, Cond.code yX6_isDoor cX6_isDoor 1 (some .boolean), Cond.methodLink RX6 88 yX6_copies, Cond.static yX6_copies, Cond.code yX6_copies cX6_copies 5 none]
def wsX6_lay : List Cond := .code yX6_lay cX6_lay 1 (some .int) :: ((wsX6_lay_r1 ++ wsX6_lay_r2) ++ wsX60)
def wsX6_keeps : List Cond := .code yX6_keeps cX6_keeps 2 none :: ([.fieldLink RX6 92 "MirrorSharesModel" "changes" "I", .fieldLink RX6 19 "MirrorSharesModel" "past" "[I", .fieldLink RX6 7 "MirrorSharesModel" "now" "[I", .methodLink RX6 88 yX6_copies, .static yX6_copies, .initialized RX6, .code yX6_copies cX6_copies 5 none] ++ wsX60)
def wsX6_undo : List Cond := .code yX6_undo cX6_undo 1 (some .int) :: ([.fieldLink RX6 92 "MirrorSharesModel" "changes" "I", .fieldLink RX6 19 "MirrorSharesModel" "past" "[I", .fieldLink RX6 7 "MirrorSharesModel" "now" "[I", .methodLink RX6 88 yX6_copies, .static yX6_copies, .initialized RX6, .code yX6_copies cX6_copies 5 none] ++ wsX60)
def wsX6_isCell : List Cond := .code yX6_isCell cX6_isCell 2 (some .boolean) :: ([.fieldLink RX6 7 "MirrorSharesModel" "now" "[I", .methodLink RX6 52 yX6_cells, .static yX6_cells, .initialized RX6, .code yX6_cells cX6_cells 1 (some .int), .methodLink RX6 48 yX6_in, .static yX6_in, .code yX6_in cX6_in 3 (some .boolean)] ++ wsX60)
def wsX6_put_r1 : List Cond := [Cond.fieldLink RX6 7 "MirrorSharesModel" "now" "[I", Cond.methodLink RX6 95 yX6_isCell, Cond.instanceMethod yX6_isCell, Cond.selects RX6 yX6_isCell yX6_isCell, Cond.initialized RX6, Cond.code yX6_isCell cX6_isCell 2 (some .boolean), Cond.methodLink RX6 52 yX6_cells, Cond.static yX6_cells, Cond.code yX6_cells cX6_cells 1 (some .int), Cond.methodLink RX6 48 yX6_in, Cond.static yX6_in, Cond.code yX6_in cX6_in 3 (some .boolean), Cond.methodLink RX6 56 yX6_isHalf, Cond.static yX6_isHalf, Cond.code yX6_isHalf cX6_isHalf 1 (some .boolean), Cond.methodLink RX6 74 yX6_halves, Cond.static yX6_halves, Cond.code yX6_halves cX6_halves 3 (some .int), Cond.methodLink RX6 60 yX6_isDoor, Cond.static yX6_isDoor, Cond.code yX6_isDoor cX6_isDoor 1 (some .boolean), Cond.methodLink RX6 77 yX6_doors, Cond.static yX6_doors, Cond.code yX6_doors cX6_doors 3 (some .int)]
def wsX6_put_r2 : List Cond := [Cond.methodLink RX6 98 yX6_keeps, Cond.instanceMethod yX6_keeps, Cond.selects RX6 yX6_keeps yX6_keeps, Cond.code yX6_keeps cX6_keeps 2 none, Cond.fieldLink RX6 92 "MirrorSharesModel" "changes" "I", Cond.fieldLink RX6 19 "MirrorSharesModel" "past" "[I", Cond.methodLink RX6 88 yX6_copies, Cond.static yX6_copies, Cond.code yX6_copies cX6_copies 5 none]
def wsX6_put : List Cond := .code yX6_put cX6_put 6 (some .int) :: ((wsX6_put_r1 ++ wsX6_put_r2) ++ wsX60)
def wsX6_doorCell : List Cond := .code yX6_doorCell cX6_doorCell 4 (some .int) :: ([.methodLink RX6 52 yX6_cells, .static yX6_cells, .initialized RX6, .code yX6_cells cX6_cells 1 (some .int), .methodLink RX6 60 yX6_isDoor, .static yX6_isDoor, .code yX6_isDoor cX6_isDoor 1 (some .boolean), .methodLink RX6 48 yX6_in, .static yX6_in, .code yX6_in cX6_in 3 (some .boolean)])
def wsX6_openOf : List Cond := .code yX6_openOf cX6_openOf 3 (some .int) :: ([.methodLink RX6 52 yX6_cells, .static yX6_cells, .initialized RX6, .code yX6_cells cX6_cells 1 (some .int)])
def wsX6_isTheDoor : List Cond := .code yX6_isTheDoor cX6_isTheDoor 2 (some .boolean) :: ([.fieldLink RX6 7 "MirrorSharesModel" "now" "[I", .methodLink RX6 77 yX6_doors, .static yX6_doors, .initialized RX6, .code yX6_doors cX6_doors 3 (some .int), .methodLink RX6 52 yX6_cells, .static yX6_cells, .code yX6_cells cX6_cells 1 (some .int), .methodLink RX6 60 yX6_isDoor, .static yX6_isDoor, .code yX6_isDoor cX6_isDoor 1 (some .boolean), .methodLink RX6 48 yX6_in, .static yX6_in, .code yX6_in cX6_in 3 (some .boolean)] ++ wsX60)
def wsX6_door_r1 : List Cond := [Cond.fieldLink RX6 7 "MirrorSharesModel" "now" "[I", Cond.methodLink RX6 101 yX6_isTheDoor, Cond.instanceMethod yX6_isTheDoor, Cond.selects RX6 yX6_isTheDoor yX6_isTheDoor, Cond.initialized RX6, Cond.code yX6_isTheDoor cX6_isTheDoor 2 (some .boolean), Cond.methodLink RX6 77 yX6_doors, Cond.static yX6_doors, Cond.code yX6_doors cX6_doors 3 (some .int), Cond.methodLink RX6 52 yX6_cells, Cond.static yX6_cells, Cond.code yX6_cells cX6_cells 1 (some .int), Cond.methodLink RX6 60 yX6_isDoor, Cond.static yX6_isDoor, Cond.code yX6_isDoor cX6_isDoor 1 (some .boolean), Cond.methodLink RX6 48 yX6_in, Cond.static yX6_in, Cond.code yX6_in cX6_in 3 (some .boolean), Cond.methodLink RX6 104 yX6_doorCell, Cond.static yX6_doorCell, Cond.code yX6_doorCell cX6_doorCell 4 (some .int), Cond.methodLink RX6 98 yX6_keeps, Cond.instanceMethod yX6_keeps, Cond.selects RX6 yX6_keeps yX6_keeps]
def wsX6_door_r2 : List Cond := [Cond.code yX6_keeps cX6_keeps 2 none, Cond.fieldLink RX6 92 "MirrorSharesModel" "changes" "I", Cond.fieldLink RX6 19 "MirrorSharesModel" "past" "[I", Cond.methodLink RX6 88 yX6_copies, Cond.static yX6_copies, Cond.code yX6_copies cX6_copies 5 none, Cond.methodLink RX6 108 yX6_openOf, Cond.static yX6_openOf, Cond.code yX6_openOf cX6_openOf 3 (some .int)]
def wsX6_door : List Cond := .code yX6_door cX6_door 4 (some .int) :: ((wsX6_door_r1 ++ wsX6_door_r2) ++ wsX60)
def wsX6_turn : List Cond := .code yX6_turn cX6_turn 7 (some .int) :: ([.fieldLink RX6 7 "MirrorSharesModel" "now" "[I", .fieldLink RX6 16 "MirrorSharesModel" "aside" "[I", .methodLink RX6 48 yX6_in, .static yX6_in, .initialized RX6, .code yX6_in cX6_in 3 (some .boolean), .methodLink RX6 98 yX6_keeps, .instanceMethod yX6_keeps, .selects RX6 yX6_keeps yX6_keeps, .code yX6_keeps cX6_keeps 2 none, .fieldLink RX6 92 "MirrorSharesModel" "changes" "I", .fieldLink RX6 19 "MirrorSharesModel" "past" "[I", .methodLink RX6 88 yX6_copies, .static yX6_copies, .code yX6_copies cX6_copies 5 none, .methodLink RX6 56 yX6_isHalf, .static yX6_isHalf, .code yX6_isHalf cX6_isHalf 1 (some .boolean)] ++ wsX60)
def wsX6_cell : List Cond := .code yX6_cell cX6_cell 2 (some .int) :: ([.fieldLink RX6 7 "MirrorSharesModel" "now" "[I", .methodLink RX6 95 yX6_isCell, .instanceMethod yX6_isCell, .selects RX6 yX6_isCell yX6_isCell, .initialized RX6, .code yX6_isCell cX6_isCell 2 (some .boolean), .methodLink RX6 52 yX6_cells, .static yX6_cells, .code yX6_cells cX6_cells 1 (some .int), .methodLink RX6 48 yX6_in, .static yX6_in, .code yX6_in cX6_in 3 (some .boolean)] ++ wsX60)
def wsX6_doorAt : List Cond := .code yX6_doorAt cX6_doorAt 2 (some .int) :: ([.fieldLink RX6 7 "MirrorSharesModel" "now" "[I", .methodLink RX6 101 yX6_isTheDoor, .instanceMethod yX6_isTheDoor, .selects RX6 yX6_isTheDoor yX6_isTheDoor, .initialized RX6, .code yX6_isTheDoor cX6_isTheDoor 2 (some .boolean), .methodLink RX6 77 yX6_doors, .static yX6_doors, .code yX6_doors cX6_doors 3 (some .int), .methodLink RX6 52 yX6_cells, .static yX6_cells, .code yX6_cells cX6_cells 1 (some .int), .methodLink RX6 60 yX6_isDoor, .static yX6_isDoor, .code yX6_isDoor cX6_isDoor 1 (some .boolean), .methodLink RX6 48 yX6_in, .static yX6_in, .code yX6_in cX6_in 3 (some .boolean), .methodLink RX6 104 yX6_doorCell, .static yX6_doorCell, .code yX6_doorCell cX6_doorCell 4 (some .int)] ++ wsX60)
def wsX6_ports : List Cond := .code yX6_ports cX6_ports 1 (some .int) :: ([])
def wsX6_isPort : List Cond := .code yX6_isPort cX6_isPort 2 (some .boolean) :: ([.fieldLink RX6 7 "MirrorSharesModel" "now" "[I", .methodLink RX6 111 yX6_ports, .static yX6_ports, .initialized RX6, .code yX6_ports cX6_ports 1 (some .int), .methodLink RX6 48 yX6_in, .static yX6_in, .code yX6_in cX6_in 3 (some .boolean)] ++ wsX60)
def wsX6_portState : List Cond := .code yX6_portState cX6_portState 4 (some .int) :: ([])
def wsX6_port : List Cond := .code yX6_port cX6_port 4 (some .int) :: ([.fieldLink RX6 7 "MirrorSharesModel" "now" "[I", .methodLink RX6 114 yX6_isPort, .instanceMethod yX6_isPort, .selects RX6 yX6_isPort yX6_isPort, .initialized RX6, .code yX6_isPort cX6_isPort 2 (some .boolean), .methodLink RX6 111 yX6_ports, .static yX6_ports, .code yX6_ports cX6_ports 1 (some .int), .methodLink RX6 48 yX6_in, .static yX6_in, .code yX6_in cX6_in 3 (some .boolean), .methodLink RX6 117 yX6_portState, .static yX6_portState, .code yX6_portState cX6_portState 4 (some .int)] ++ wsX60)
def wsX6_onward : List Cond := .code yX6_onward cX6_onward 7 (some .int) :: ([])
def wsX6_turned : List Cond := .code yX6_turned cX6_turned 2 (some .int) :: ([])
def wsX6_waysOf : List Cond := .code yX6_waysOf cX6_waysOf 3 (some .int) :: ([.methodLink RX6 56 yX6_isHalf, .static yX6_isHalf, .initialized RX6, .code yX6_isHalf cX6_isHalf 1 (some .boolean), .methodLink RX6 48 yX6_in, .static yX6_in, .code yX6_in cX6_in 3 (some .boolean)])
def wsX6_goes : List Cond := .code yX6_goes cX6_goes 7 (some .int) :: ([.methodLink RX6 48 yX6_in, .static yX6_in, .initialized RX6, .code yX6_in cX6_in 3 (some .boolean), .methodLink RX6 56 yX6_isHalf, .static yX6_isHalf, .code yX6_isHalf cX6_isHalf 1 (some .boolean), .methodLink RX6 120 yX6_turned, .static yX6_turned, .code yX6_turned cX6_turned 2 (some .int), .methodLink RX6 124 yX6_onward, .static yX6_onward, .code yX6_onward cX6_onward 7 (some .int)])
def wsX6_follows : List Cond := .code yX6_follows cX6_follows 4 (some .int) :: ([.methodLink RX6 128 yX6_waysOf, .static yX6_waysOf, .initialized RX6, .code yX6_waysOf cX6_waysOf 3 (some .int), .methodLink RX6 56 yX6_isHalf, .static yX6_isHalf, .code yX6_isHalf cX6_isHalf 1 (some .boolean), .methodLink RX6 48 yX6_in, .static yX6_in, .code yX6_in cX6_in 3 (some .boolean), .methodLink RX6 131 yX6_goes, .static yX6_goes, .code yX6_goes cX6_goes 7 (some .int), .methodLink RX6 120 yX6_turned, .static yX6_turned, .code yX6_turned cX6_turned 2 (some .int), .methodLink RX6 124 yX6_onward, .static yX6_onward, .code yX6_onward cX6_onward 7 (some .int)])
def wsX6_isAsked : List Cond := .code yX6_isAsked cX6_isAsked 2 (some .boolean) :: ([])
def wsX6_gathers_r1 : List Cond := [Cond.fieldLink RX6 134 "MirrorSharesModel" "nodeMany" "I", Cond.fieldLink RX6 25 "MirrorSharesModel" "nodes" "[I", Cond.fieldLink RX6 28 "MirrorSharesModel" "comes" "[I", Cond.methodLink RX6 131 yX6_goes, Cond.static yX6_goes, Cond.initialized RX6, Cond.code yX6_goes cX6_goes 7 (some .int), Cond.methodLink RX6 48 yX6_in, Cond.static yX6_in, Cond.code yX6_in cX6_in 3 (some .boolean), Cond.methodLink RX6 56 yX6_isHalf, Cond.static yX6_isHalf, Cond.code yX6_isHalf cX6_isHalf 1 (some .boolean), Cond.methodLink RX6 120 yX6_turned, Cond.static yX6_turned, Cond.code yX6_turned cX6_turned 2 (some .int), Cond.methodLink RX6 124 yX6_onward, Cond.static yX6_onward, Cond.code yX6_onward cX6_onward 7 (some .int), Cond.methodLink RX6 137 yX6_follows, Cond.static yX6_follows, Cond.code yX6_follows cX6_follows 4 (some .int), Cond.methodLink RX6 128 yX6_waysOf, Cond.static yX6_waysOf]
def wsX6_gathers_r2 : List Cond := [Cond.code yX6_waysOf cX6_waysOf 3 (some .int)]
def wsX6_gathers : List Cond := .code yX6_gathers cX6_gathers 8 none :: ((wsX6_gathers_r1 ++ wsX6_gathers_r2) ++ wsX60)
def wsX6_findsMay : List Cond := .code yX6_findsMay cX6_findsMay 6 none :: ([.fieldLink RX6 35 "MirrorSharesModel" "place" "[I", .fieldLink RX6 134 "MirrorSharesModel" "nodeMany" "I", .fieldLink RX6 31 "MirrorSharesModel" "may" "[Z", .fieldLink RX6 25 "MirrorSharesModel" "nodes" "[I", .fieldLink RX6 28 "MirrorSharesModel" "comes" "[I", .methodLink RX6 140 yX6_isAsked, .static yX6_isAsked, .initialized RX6, .code yX6_isAsked cX6_isAsked 2 (some .boolean)] ++ wsX60)
def wsX6_laysRows : List Cond := .code yX6_laysRows cX6_laysRows 7 (some .int) :: ([.fieldLink RX6 134 "MirrorSharesModel" "nodeMany" "I", .fieldLink RX6 35 "MirrorSharesModel" "place" "[I", .fieldLink RX6 25 "MirrorSharesModel" "nodes" "[I", .fieldLink RX6 31 "MirrorSharesModel" "may" "[Z", .fieldLink RX6 38 "MirrorSharesModel" "rows" "[J", .constantLong RX6 144 (2), .fieldLink RX6 28 "MirrorSharesModel" "comes" "[I", .methodLink RX6 140 yX6_isAsked, .static yX6_isAsked, .initialized RX6, .code yX6_isAsked cX6_isAsked 2 (some .boolean)] ++ wsX60)
def wsX6_solves : List Cond := .code yX6_solves cX6_solves 11 none :: ([.fieldLink RX6 38 "MirrorSharesModel" "rows" "[J", .fieldLink RX6 146 "MirrorSharesModel" "above" "J", .fieldLink RX6 150 "MirrorSharesModel" "below" "J"] ++ wsX60)
def wsX6_lowers : List Cond := .code yX6_lowers cX6_lowers 7 none :: ([.fieldLink RX6 146 "MirrorSharesModel" "above" "J", .fieldLink RX6 150 "MirrorSharesModel" "below" "J"] ++ wsX60)
def wsX6_shares_r1 : List Cond := [Cond.fieldLink RX6 146 "MirrorSharesModel" "above" "J", Cond.fieldLink RX6 150 "MirrorSharesModel" "below" "J", Cond.fieldLink RX6 31 "MirrorSharesModel" "may" "[Z", Cond.methodLink RX6 117 yX6_portState, Cond.static yX6_portState, Cond.initialized RX6, Cond.code yX6_portState cX6_portState 4 (some .int), Cond.methodLink RX6 137 yX6_follows, Cond.static yX6_follows, Cond.code yX6_follows cX6_follows 4 (some .int), Cond.methodLink RX6 128 yX6_waysOf, Cond.static yX6_waysOf, Cond.code yX6_waysOf cX6_waysOf 3 (some .int), Cond.methodLink RX6 56 yX6_isHalf, Cond.static yX6_isHalf, Cond.code yX6_isHalf cX6_isHalf 1 (some .boolean), Cond.methodLink RX6 48 yX6_in, Cond.static yX6_in, Cond.code yX6_in cX6_in 3 (some .boolean), Cond.methodLink RX6 131 yX6_goes, Cond.static yX6_goes, Cond.code yX6_goes cX6_goes 7 (some .int), Cond.methodLink RX6 120 yX6_turned, Cond.static yX6_turned]
def wsX6_shares_r2 : List Cond := [Cond.code yX6_turned cX6_turned 2 (some .int), Cond.methodLink RX6 124 yX6_onward, Cond.static yX6_onward, Cond.code yX6_onward cX6_onward 7 (some .int), Cond.methodLink RX6 140 yX6_isAsked, Cond.static yX6_isAsked, Cond.code yX6_isAsked cX6_isAsked 2 (some .boolean), Cond.methodLink RX6 153 yX6_gathers, Cond.instanceMethod yX6_gathers, Cond.selects RX6 yX6_gathers yX6_gathers, Cond.code yX6_gathers cX6_gathers 8 none, Cond.fieldLink RX6 134 "MirrorSharesModel" "nodeMany" "I", Cond.fieldLink RX6 25 "MirrorSharesModel" "nodes" "[I", Cond.fieldLink RX6 28 "MirrorSharesModel" "comes" "[I", Cond.methodLink RX6 157 yX6_findsMay, Cond.instanceMethod yX6_findsMay, Cond.selects RX6 yX6_findsMay yX6_findsMay, Cond.code yX6_findsMay cX6_findsMay 6 none, Cond.fieldLink RX6 35 "MirrorSharesModel" "place" "[I", Cond.methodLink RX6 161 yX6_laysRows, Cond.instanceMethod yX6_laysRows, Cond.selects RX6 yX6_laysRows yX6_laysRows, Cond.code yX6_laysRows cX6_laysRows 7 (some .int), Cond.fieldLink RX6 38 "MirrorSharesModel" "rows" "[J"]
def wsX6_shares_r3 : List Cond := [Cond.constantLong RX6 144 (2), Cond.methodLink RX6 164 yX6_solves, Cond.instanceMethod yX6_solves, Cond.selects RX6 yX6_solves yX6_solves, Cond.code yX6_solves cX6_solves 11 none, Cond.methodLink RX6 167 yX6_lowers, Cond.instanceMethod yX6_lowers, Cond.selects RX6 yX6_lowers yX6_lowers, Cond.code yX6_lowers cX6_lowers 7 none]
def wsX6_shares : List Cond := .code yX6_shares cX6_shares 5 none :: ((wsX6_shares_r1 ++ (wsX6_shares_r2 ++ wsX6_shares_r3)) ++ wsX60)
def wsX6_share_r1 : List Cond := [Cond.fieldLink RX6 7 "MirrorSharesModel" "now" "[I", Cond.fieldLink RX6 146 "MirrorSharesModel" "above" "J", Cond.fieldLink RX6 150 "MirrorSharesModel" "below" "J", Cond.methodLink RX6 114 yX6_isPort, Cond.instanceMethod yX6_isPort, Cond.selects RX6 yX6_isPort yX6_isPort, Cond.initialized RX6, Cond.code yX6_isPort cX6_isPort 2 (some .boolean), Cond.methodLink RX6 111 yX6_ports, Cond.static yX6_ports, Cond.code yX6_ports cX6_ports 1 (some .int), Cond.methodLink RX6 48 yX6_in, Cond.static yX6_in, Cond.code yX6_in cX6_in 3 (some .boolean), Cond.methodLink RX6 170 yX6_shares, Cond.instanceMethod yX6_shares, Cond.selects RX6 yX6_shares yX6_shares, Cond.code yX6_shares cX6_shares 5 none, Cond.fieldLink RX6 31 "MirrorSharesModel" "may" "[Z", Cond.methodLink RX6 117 yX6_portState, Cond.static yX6_portState, Cond.code yX6_portState cX6_portState 4 (some .int), Cond.methodLink RX6 137 yX6_follows, Cond.static yX6_follows]
def wsX6_share_r2 : List Cond := [Cond.code yX6_follows cX6_follows 4 (some .int), Cond.methodLink RX6 128 yX6_waysOf, Cond.static yX6_waysOf, Cond.code yX6_waysOf cX6_waysOf 3 (some .int), Cond.methodLink RX6 56 yX6_isHalf, Cond.static yX6_isHalf, Cond.code yX6_isHalf cX6_isHalf 1 (some .boolean), Cond.methodLink RX6 131 yX6_goes, Cond.static yX6_goes, Cond.code yX6_goes cX6_goes 7 (some .int), Cond.methodLink RX6 120 yX6_turned, Cond.static yX6_turned, Cond.code yX6_turned cX6_turned 2 (some .int), Cond.methodLink RX6 124 yX6_onward, Cond.static yX6_onward, Cond.code yX6_onward cX6_onward 7 (some .int), Cond.methodLink RX6 140 yX6_isAsked, Cond.static yX6_isAsked, Cond.code yX6_isAsked cX6_isAsked 2 (some .boolean), Cond.methodLink RX6 153 yX6_gathers, Cond.instanceMethod yX6_gathers, Cond.selects RX6 yX6_gathers yX6_gathers, Cond.code yX6_gathers cX6_gathers 8 none, Cond.fieldLink RX6 134 "MirrorSharesModel" "nodeMany" "I"]
def wsX6_share_r3 : List Cond := [Cond.fieldLink RX6 25 "MirrorSharesModel" "nodes" "[I", Cond.fieldLink RX6 28 "MirrorSharesModel" "comes" "[I", Cond.methodLink RX6 157 yX6_findsMay, Cond.instanceMethod yX6_findsMay, Cond.selects RX6 yX6_findsMay yX6_findsMay, Cond.code yX6_findsMay cX6_findsMay 6 none, Cond.fieldLink RX6 35 "MirrorSharesModel" "place" "[I", Cond.methodLink RX6 161 yX6_laysRows, Cond.instanceMethod yX6_laysRows, Cond.selects RX6 yX6_laysRows yX6_laysRows, Cond.code yX6_laysRows cX6_laysRows 7 (some .int), Cond.fieldLink RX6 38 "MirrorSharesModel" "rows" "[J", Cond.constantLong RX6 144 (2), Cond.methodLink RX6 164 yX6_solves, Cond.instanceMethod yX6_solves, Cond.selects RX6 yX6_solves yX6_solves, Cond.code yX6_solves cX6_solves 11 none, Cond.methodLink RX6 167 yX6_lowers, Cond.instanceMethod yX6_lowers, Cond.selects RX6 yX6_lowers yX6_lowers, Cond.code yX6_lowers cX6_lowers 7 none]
def wsX6_share : List Cond := .code yX6_share cX6_share 4 (some .int) :: ((wsX6_share_r1 ++ (wsX6_share_r2 ++ wsX6_share_r3)) ++ wsX60)
def wsX6_lostOf_r1 : List Cond := [Cond.fieldLink RX6 7 "MirrorSharesModel" "now" "[I", Cond.fieldLink RX6 150 "MirrorSharesModel" "below" "J", Cond.fieldLink RX6 146 "MirrorSharesModel" "above" "J", Cond.methodLink RX6 170 yX6_shares, Cond.instanceMethod yX6_shares, Cond.selects RX6 yX6_shares yX6_shares, Cond.initialized RX6, Cond.code yX6_shares cX6_shares 5 none, Cond.fieldLink RX6 31 "MirrorSharesModel" "may" "[Z", Cond.methodLink RX6 117 yX6_portState, Cond.static yX6_portState, Cond.code yX6_portState cX6_portState 4 (some .int), Cond.methodLink RX6 137 yX6_follows, Cond.static yX6_follows, Cond.code yX6_follows cX6_follows 4 (some .int), Cond.methodLink RX6 128 yX6_waysOf, Cond.static yX6_waysOf, Cond.code yX6_waysOf cX6_waysOf 3 (some .int), Cond.methodLink RX6 56 yX6_isHalf, Cond.static yX6_isHalf, Cond.code yX6_isHalf cX6_isHalf 1 (some .boolean), Cond.methodLink RX6 48 yX6_in, Cond.static yX6_in, Cond.code yX6_in cX6_in 3 (some .boolean)]
def wsX6_lostOf_r2 : List Cond := [Cond.methodLink RX6 131 yX6_goes, Cond.static yX6_goes, Cond.code yX6_goes cX6_goes 7 (some .int), Cond.methodLink RX6 120 yX6_turned, Cond.static yX6_turned, Cond.code yX6_turned cX6_turned 2 (some .int), Cond.methodLink RX6 124 yX6_onward, Cond.static yX6_onward, Cond.code yX6_onward cX6_onward 7 (some .int), Cond.methodLink RX6 140 yX6_isAsked, Cond.static yX6_isAsked, Cond.code yX6_isAsked cX6_isAsked 2 (some .boolean), Cond.methodLink RX6 153 yX6_gathers, Cond.instanceMethod yX6_gathers, Cond.selects RX6 yX6_gathers yX6_gathers, Cond.code yX6_gathers cX6_gathers 8 none, Cond.fieldLink RX6 134 "MirrorSharesModel" "nodeMany" "I", Cond.fieldLink RX6 25 "MirrorSharesModel" "nodes" "[I", Cond.fieldLink RX6 28 "MirrorSharesModel" "comes" "[I", Cond.methodLink RX6 157 yX6_findsMay, Cond.instanceMethod yX6_findsMay, Cond.selects RX6 yX6_findsMay yX6_findsMay, Cond.code yX6_findsMay cX6_findsMay 6 none, Cond.fieldLink RX6 35 "MirrorSharesModel" "place" "[I"]
def wsX6_lostOf_r3 : List Cond := [Cond.methodLink RX6 161 yX6_laysRows, Cond.instanceMethod yX6_laysRows, Cond.selects RX6 yX6_laysRows yX6_laysRows, Cond.code yX6_laysRows cX6_laysRows 7 (some .int), Cond.fieldLink RX6 38 "MirrorSharesModel" "rows" "[J", Cond.constantLong RX6 144 (2), Cond.methodLink RX6 164 yX6_solves, Cond.instanceMethod yX6_solves, Cond.selects RX6 yX6_solves yX6_solves, Cond.code yX6_solves cX6_solves 11 none, Cond.methodLink RX6 167 yX6_lowers, Cond.instanceMethod yX6_lowers, Cond.selects RX6 yX6_lowers yX6_lowers, Cond.code yX6_lowers cX6_lowers 7 none]
def wsX6_lostOf : List Cond := .code yX6_lostOf cX6_lostOf 3 (some .long) :: ((wsX6_lostOf_r1 ++ (wsX6_lostOf_r2 ++ wsX6_lostOf_r3)) ++ wsX60)
def wsX6_lost_r1 : List Cond := [Cond.methodLink RX6 114 yX6_isPort, Cond.instanceMethod yX6_isPort, Cond.selects RX6 yX6_isPort yX6_isPort, Cond.initialized RX6, Cond.code yX6_isPort cX6_isPort 2 (some .boolean), Cond.fieldLink RX6 7 "MirrorSharesModel" "now" "[I", Cond.methodLink RX6 111 yX6_ports, Cond.static yX6_ports, Cond.code yX6_ports cX6_ports 1 (some .int), Cond.methodLink RX6 48 yX6_in, Cond.static yX6_in, Cond.code yX6_in cX6_in 3 (some .boolean), Cond.methodLink RX6 174 yX6_lostOf, Cond.instanceMethod yX6_lostOf, Cond.selects RX6 yX6_lostOf yX6_lostOf, Cond.code yX6_lostOf cX6_lostOf 3 (some .long), Cond.fieldLink RX6 150 "MirrorSharesModel" "below" "J", Cond.fieldLink RX6 146 "MirrorSharesModel" "above" "J", Cond.methodLink RX6 170 yX6_shares, Cond.instanceMethod yX6_shares, Cond.selects RX6 yX6_shares yX6_shares, Cond.code yX6_shares cX6_shares 5 none, Cond.fieldLink RX6 31 "MirrorSharesModel" "may" "[Z", Cond.methodLink RX6 117 yX6_portState]
def wsX6_lost_r2 : List Cond := [Cond.static yX6_portState, Cond.code yX6_portState cX6_portState 4 (some .int), Cond.methodLink RX6 137 yX6_follows, Cond.static yX6_follows, Cond.code yX6_follows cX6_follows 4 (some .int), Cond.methodLink RX6 128 yX6_waysOf, Cond.static yX6_waysOf, Cond.code yX6_waysOf cX6_waysOf 3 (some .int), Cond.methodLink RX6 56 yX6_isHalf, Cond.static yX6_isHalf, Cond.code yX6_isHalf cX6_isHalf 1 (some .boolean), Cond.methodLink RX6 131 yX6_goes, Cond.static yX6_goes, Cond.code yX6_goes cX6_goes 7 (some .int), Cond.methodLink RX6 120 yX6_turned, Cond.static yX6_turned, Cond.code yX6_turned cX6_turned 2 (some .int), Cond.methodLink RX6 124 yX6_onward, Cond.static yX6_onward, Cond.code yX6_onward cX6_onward 7 (some .int), Cond.methodLink RX6 140 yX6_isAsked, Cond.static yX6_isAsked, Cond.code yX6_isAsked cX6_isAsked 2 (some .boolean), Cond.methodLink RX6 153 yX6_gathers]
def wsX6_lost_r3 : List Cond := [Cond.instanceMethod yX6_gathers, Cond.selects RX6 yX6_gathers yX6_gathers, Cond.code yX6_gathers cX6_gathers 8 none, Cond.fieldLink RX6 134 "MirrorSharesModel" "nodeMany" "I", Cond.fieldLink RX6 25 "MirrorSharesModel" "nodes" "[I", Cond.fieldLink RX6 28 "MirrorSharesModel" "comes" "[I", Cond.methodLink RX6 157 yX6_findsMay, Cond.instanceMethod yX6_findsMay, Cond.selects RX6 yX6_findsMay yX6_findsMay, Cond.code yX6_findsMay cX6_findsMay 6 none, Cond.fieldLink RX6 35 "MirrorSharesModel" "place" "[I", Cond.methodLink RX6 161 yX6_laysRows, Cond.instanceMethod yX6_laysRows, Cond.selects RX6 yX6_laysRows yX6_laysRows, Cond.code yX6_laysRows cX6_laysRows 7 (some .int), Cond.fieldLink RX6 38 "MirrorSharesModel" "rows" "[J", Cond.constantLong RX6 144 (2), Cond.methodLink RX6 164 yX6_solves, Cond.instanceMethod yX6_solves, Cond.selects RX6 yX6_solves yX6_solves, Cond.code yX6_solves cX6_solves 11 none, Cond.methodLink RX6 167 yX6_lowers, Cond.instanceMethod yX6_lowers, Cond.selects RX6 yX6_lowers yX6_lowers]
def wsX6_lost_r4 : List Cond := [Cond.code yX6_lowers cX6_lowers 7 none]
def wsX6_lost : List Cond := .code yX6_lost cX6_lost 3 (some .int) :: ((wsX6_lost_r1 ++ (wsX6_lost_r2 ++ (wsX6_lost_r3 ++ wsX6_lost_r4))) ++ wsX60)
def wsJxf58ca_isNaN_12338 : List Cond := .code yJxf58ca_isNaN_12338 cJxf58ca_isNaN_12338 1 (some .boolean) :: ([])
def wsJxf58ca_floatToIntBits_5c35a : List Cond := .code yJxf58ca_floatToIntBits_5c35a cJxf58ca_floatToIntBits_5c35a 1 (some .int) :: ([.methodLink RJxf58ca 74 ⟨"java/lang/Float", "floatToRawIntBits", "(F)I"⟩, .native ⟨"java/lang/Float", "floatToRawIntBits", "(F)I"⟩, .static ⟨"java/lang/Float", "floatToRawIntBits", "(F)I"⟩, .initialized "java/lang/Float", .constant RJxf58ca 77 (2143289344), .methodLink RJxf58ca 59 yJxf58ca_isNaN_12338, .static yJxf58ca_isNaN_12338, .initialized RJxf58ca, .code yJxf58ca_isNaN_12338 cJxf58ca_isNaN_12338 1 (some .boolean)])
def wsX6_bits_r1 : List Cond := [Cond.fieldLink RX6 7 "MirrorSharesModel" "now" "[I", Cond.fieldLink RX6 146 "MirrorSharesModel" "above" "J", Cond.fieldLink RX6 150 "MirrorSharesModel" "below" "J", Cond.methodLink RX6 114 yX6_isPort, Cond.instanceMethod yX6_isPort, Cond.selects RX6 yX6_isPort yX6_isPort, Cond.initialized RX6, Cond.code yX6_isPort cX6_isPort 2 (some .boolean), Cond.methodLink RX6 111 yX6_ports, Cond.static yX6_ports, Cond.code yX6_ports cX6_ports 1 (some .int), Cond.methodLink RX6 48 yX6_in, Cond.static yX6_in, Cond.code yX6_in cX6_in 3 (some .boolean), Cond.methodLink RX6 170 yX6_shares, Cond.instanceMethod yX6_shares, Cond.selects RX6 yX6_shares yX6_shares, Cond.code yX6_shares cX6_shares 5 none, Cond.fieldLink RX6 31 "MirrorSharesModel" "may" "[Z", Cond.methodLink RX6 117 yX6_portState, Cond.static yX6_portState, Cond.code yX6_portState cX6_portState 4 (some .int), Cond.methodLink RX6 137 yX6_follows, Cond.static yX6_follows]
def wsX6_bits_r2 : List Cond := [Cond.code yX6_follows cX6_follows 4 (some .int), Cond.methodLink RX6 128 yX6_waysOf, Cond.static yX6_waysOf, Cond.code yX6_waysOf cX6_waysOf 3 (some .int), Cond.methodLink RX6 56 yX6_isHalf, Cond.static yX6_isHalf, Cond.code yX6_isHalf cX6_isHalf 1 (some .boolean), Cond.methodLink RX6 131 yX6_goes, Cond.static yX6_goes, Cond.code yX6_goes cX6_goes 7 (some .int), Cond.methodLink RX6 120 yX6_turned, Cond.static yX6_turned, Cond.code yX6_turned cX6_turned 2 (some .int), Cond.methodLink RX6 124 yX6_onward, Cond.static yX6_onward, Cond.code yX6_onward cX6_onward 7 (some .int), Cond.methodLink RX6 140 yX6_isAsked, Cond.static yX6_isAsked, Cond.code yX6_isAsked cX6_isAsked 2 (some .boolean), Cond.methodLink RX6 153 yX6_gathers, Cond.instanceMethod yX6_gathers, Cond.selects RX6 yX6_gathers yX6_gathers, Cond.code yX6_gathers cX6_gathers 8 none, Cond.fieldLink RX6 134 "MirrorSharesModel" "nodeMany" "I"]
def wsX6_bits_r3 : List Cond := [Cond.fieldLink RX6 25 "MirrorSharesModel" "nodes" "[I", Cond.fieldLink RX6 28 "MirrorSharesModel" "comes" "[I", Cond.methodLink RX6 157 yX6_findsMay, Cond.instanceMethod yX6_findsMay, Cond.selects RX6 yX6_findsMay yX6_findsMay, Cond.code yX6_findsMay cX6_findsMay 6 none, Cond.fieldLink RX6 35 "MirrorSharesModel" "place" "[I", Cond.methodLink RX6 161 yX6_laysRows, Cond.instanceMethod yX6_laysRows, Cond.selects RX6 yX6_laysRows yX6_laysRows, Cond.code yX6_laysRows cX6_laysRows 7 (some .int), Cond.fieldLink RX6 38 "MirrorSharesModel" "rows" "[J", Cond.constantLong RX6 144 (2), Cond.methodLink RX6 164 yX6_solves, Cond.instanceMethod yX6_solves, Cond.selects RX6 yX6_solves yX6_solves, Cond.code yX6_solves cX6_solves 11 none, Cond.methodLink RX6 167 yX6_lowers, Cond.instanceMethod yX6_lowers, Cond.selects RX6 yX6_lowers yX6_lowers, Cond.code yX6_lowers cX6_lowers 7 none, Cond.methodLink RX6 178 yJxf58ca_floatToIntBits_5c35a, Cond.static yJxf58ca_floatToIntBits_5c35a, Cond.initialized RJxf58ca]
def wsX6_bits_r4 : List Cond := [Cond.code yJxf58ca_floatToIntBits_5c35a cJxf58ca_floatToIntBits_5c35a 1 (some .int), Cond.methodLink RJxf58ca 74 ⟨"java/lang/Float", "floatToRawIntBits", "(F)I"⟩, Cond.native ⟨"java/lang/Float", "floatToRawIntBits", "(F)I"⟩, Cond.static ⟨"java/lang/Float", "floatToRawIntBits", "(F)I"⟩, Cond.initialized "java/lang/Float", Cond.constant RJxf58ca 77 (2143289344), Cond.methodLink RJxf58ca 59 yJxf58ca_isNaN_12338, Cond.static yJxf58ca_isNaN_12338, Cond.code yJxf58ca_isNaN_12338 cJxf58ca_isNaN_12338 1 (some .boolean)]
def wsX6_bits : List Cond := .code yX6_bits cX6_bits 3 (some .int) :: ((wsX6_bits_r1 ++ (wsX6_bits_r2 ++ (wsX6_bits_r3 ++ wsX6_bits_r4))) ++ wsX60)
def wsX6_spreads_r1 : List Cond := [Cond.fieldLink RX6 45 "MirrorSharesModel" "took" "[I", Cond.fieldLink RX6 42 "MirrorSharesModel" "line" "[I", Cond.fieldLink RX6 7 "MirrorSharesModel" "now" "[I", Cond.fieldLink RX6 184 "MirrorSharesModel" "met" "I", Cond.methodLink RX6 117 yX6_portState, Cond.static yX6_portState, Cond.initialized RX6, Cond.code yX6_portState cX6_portState 4 (some .int), Cond.methodLink RX6 128 yX6_waysOf, Cond.static yX6_waysOf, Cond.code yX6_waysOf cX6_waysOf 3 (some .int), Cond.methodLink RX6 56 yX6_isHalf, Cond.static yX6_isHalf, Cond.code yX6_isHalf cX6_isHalf 1 (some .boolean), Cond.methodLink RX6 48 yX6_in, Cond.static yX6_in, Cond.code yX6_in cX6_in 3 (some .boolean), Cond.methodLink RX6 131 yX6_goes, Cond.static yX6_goes, Cond.code yX6_goes cX6_goes 7 (some .int), Cond.methodLink RX6 120 yX6_turned, Cond.static yX6_turned, Cond.code yX6_turned cX6_turned 2 (some .int), Cond.methodLink RX6 124 yX6_onward]
def wsX6_spreads_r2 : List Cond := [Cond.static yX6_onward, Cond.code yX6_onward cX6_onward 7 (some .int)]
def wsX6_spreads : List Cond := .code yX6_spreads cX6_spreads 6 none :: ((wsX6_spreads_r1 ++ wsX6_spreads_r2) ++ wsX60)
def wsX6_lit_r1 : List Cond := [Cond.fieldLink RX6 184 "MirrorSharesModel" "met" "I", Cond.fieldLink RX6 42 "MirrorSharesModel" "line" "[I", Cond.methodLink RX6 114 yX6_isPort, Cond.instanceMethod yX6_isPort, Cond.selects RX6 yX6_isPort yX6_isPort, Cond.initialized RX6, Cond.code yX6_isPort cX6_isPort 2 (some .boolean), Cond.fieldLink RX6 7 "MirrorSharesModel" "now" "[I", Cond.methodLink RX6 111 yX6_ports, Cond.static yX6_ports, Cond.code yX6_ports cX6_ports 1 (some .int), Cond.methodLink RX6 48 yX6_in, Cond.static yX6_in, Cond.code yX6_in cX6_in 3 (some .boolean), Cond.methodLink RX6 187 yX6_spreads, Cond.instanceMethod yX6_spreads, Cond.selects RX6 yX6_spreads yX6_spreads, Cond.code yX6_spreads cX6_spreads 6 none, Cond.fieldLink RX6 45 "MirrorSharesModel" "took" "[I", Cond.methodLink RX6 117 yX6_portState, Cond.static yX6_portState, Cond.code yX6_portState cX6_portState 4 (some .int), Cond.methodLink RX6 128 yX6_waysOf, Cond.static yX6_waysOf]
def wsX6_lit_r2 : List Cond := [Cond.code yX6_waysOf cX6_waysOf 3 (some .int), Cond.methodLink RX6 56 yX6_isHalf, Cond.static yX6_isHalf, Cond.code yX6_isHalf cX6_isHalf 1 (some .boolean), Cond.methodLink RX6 131 yX6_goes, Cond.static yX6_goes, Cond.code yX6_goes cX6_goes 7 (some .int), Cond.methodLink RX6 120 yX6_turned, Cond.static yX6_turned, Cond.code yX6_turned cX6_turned 2 (some .int), Cond.methodLink RX6 124 yX6_onward, Cond.static yX6_onward, Cond.code yX6_onward cX6_onward 7 (some .int)]
def wsX6_lit : List Cond := .code yX6_lit cX6_lit 4 (some .int) :: ((wsX6_lit_r1 ++ wsX6_lit_r2) ++ wsX60)
def wsX6_far_r1 : List Cond := [Cond.fieldLink RX6 184 "MirrorSharesModel" "met" "I", Cond.fieldLink RX6 7 "MirrorSharesModel" "now" "[I", Cond.fieldLink RX6 42 "MirrorSharesModel" "line" "[I", Cond.fieldLink RX6 45 "MirrorSharesModel" "took" "[I", Cond.methodLink RX6 114 yX6_isPort, Cond.instanceMethod yX6_isPort, Cond.selects RX6 yX6_isPort yX6_isPort, Cond.initialized RX6, Cond.code yX6_isPort cX6_isPort 2 (some .boolean), Cond.methodLink RX6 111 yX6_ports, Cond.static yX6_ports, Cond.code yX6_ports cX6_ports 1 (some .int), Cond.methodLink RX6 48 yX6_in, Cond.static yX6_in, Cond.code yX6_in cX6_in 3 (some .boolean), Cond.methodLink RX6 187 yX6_spreads, Cond.instanceMethod yX6_spreads, Cond.selects RX6 yX6_spreads yX6_spreads, Cond.code yX6_spreads cX6_spreads 6 none, Cond.methodLink RX6 117 yX6_portState, Cond.static yX6_portState, Cond.code yX6_portState cX6_portState 4 (some .int), Cond.methodLink RX6 128 yX6_waysOf, Cond.static yX6_waysOf]
def wsX6_far_r2 : List Cond := [Cond.code yX6_waysOf cX6_waysOf 3 (some .int), Cond.methodLink RX6 56 yX6_isHalf, Cond.static yX6_isHalf, Cond.code yX6_isHalf cX6_isHalf 1 (some .boolean), Cond.methodLink RX6 131 yX6_goes, Cond.static yX6_goes, Cond.code yX6_goes cX6_goes 7 (some .int), Cond.methodLink RX6 120 yX6_turned, Cond.static yX6_turned, Cond.code yX6_turned cX6_turned 2 (some .int), Cond.methodLink RX6 124 yX6_onward, Cond.static yX6_onward, Cond.code yX6_onward cX6_onward 7 (some .int)]
def wsX6_far : List Cond := .code yX6_far cX6_far 5 (some .int) :: ((wsX6_far_r1 ++ wsX6_far_r2) ++ wsX60)
def wsX6_alike_r1 : List Cond := [Cond.methodLink RX6 114 yX6_isPort, Cond.instanceMethod yX6_isPort, Cond.selects RX6 yX6_isPort yX6_isPort, Cond.initialized RX6, Cond.code yX6_isPort cX6_isPort 2 (some .boolean), Cond.fieldLink RX6 7 "MirrorSharesModel" "now" "[I", Cond.methodLink RX6 111 yX6_ports, Cond.static yX6_ports, Cond.code yX6_ports cX6_ports 1 (some .int), Cond.methodLink RX6 48 yX6_in, Cond.static yX6_in, Cond.code yX6_in cX6_in 3 (some .boolean), Cond.methodLink RX6 174 yX6_lostOf, Cond.instanceMethod yX6_lostOf, Cond.selects RX6 yX6_lostOf yX6_lostOf, Cond.code yX6_lostOf cX6_lostOf 3 (some .long), Cond.fieldLink RX6 150 "MirrorSharesModel" "below" "J", Cond.fieldLink RX6 146 "MirrorSharesModel" "above" "J", Cond.methodLink RX6 170 yX6_shares, Cond.instanceMethod yX6_shares, Cond.selects RX6 yX6_shares yX6_shares, Cond.code yX6_shares cX6_shares 5 none, Cond.fieldLink RX6 31 "MirrorSharesModel" "may" "[Z", Cond.methodLink RX6 117 yX6_portState]
def wsX6_alike_r2 : List Cond := [Cond.static yX6_portState, Cond.code yX6_portState cX6_portState 4 (some .int), Cond.methodLink RX6 137 yX6_follows, Cond.static yX6_follows, Cond.code yX6_follows cX6_follows 4 (some .int), Cond.methodLink RX6 128 yX6_waysOf, Cond.static yX6_waysOf, Cond.code yX6_waysOf cX6_waysOf 3 (some .int), Cond.methodLink RX6 56 yX6_isHalf, Cond.static yX6_isHalf, Cond.code yX6_isHalf cX6_isHalf 1 (some .boolean), Cond.methodLink RX6 131 yX6_goes, Cond.static yX6_goes, Cond.code yX6_goes cX6_goes 7 (some .int), Cond.methodLink RX6 120 yX6_turned, Cond.static yX6_turned, Cond.code yX6_turned cX6_turned 2 (some .int), Cond.methodLink RX6 124 yX6_onward, Cond.static yX6_onward, Cond.code yX6_onward cX6_onward 7 (some .int), Cond.methodLink RX6 140 yX6_isAsked, Cond.static yX6_isAsked, Cond.code yX6_isAsked cX6_isAsked 2 (some .boolean), Cond.methodLink RX6 153 yX6_gathers]
def wsX6_alike_r3 : List Cond := [Cond.instanceMethod yX6_gathers, Cond.selects RX6 yX6_gathers yX6_gathers, Cond.code yX6_gathers cX6_gathers 8 none, Cond.fieldLink RX6 134 "MirrorSharesModel" "nodeMany" "I", Cond.fieldLink RX6 25 "MirrorSharesModel" "nodes" "[I", Cond.fieldLink RX6 28 "MirrorSharesModel" "comes" "[I", Cond.methodLink RX6 157 yX6_findsMay, Cond.instanceMethod yX6_findsMay, Cond.selects RX6 yX6_findsMay yX6_findsMay, Cond.code yX6_findsMay cX6_findsMay 6 none, Cond.fieldLink RX6 35 "MirrorSharesModel" "place" "[I", Cond.methodLink RX6 161 yX6_laysRows, Cond.instanceMethod yX6_laysRows, Cond.selects RX6 yX6_laysRows yX6_laysRows, Cond.code yX6_laysRows cX6_laysRows 7 (some .int), Cond.fieldLink RX6 38 "MirrorSharesModel" "rows" "[J", Cond.constantLong RX6 144 (2), Cond.methodLink RX6 164 yX6_solves, Cond.instanceMethod yX6_solves, Cond.selects RX6 yX6_solves yX6_solves, Cond.code yX6_solves cX6_solves 11 none, Cond.methodLink RX6 167 yX6_lowers, Cond.instanceMethod yX6_lowers, Cond.selects RX6 yX6_lowers yX6_lowers]
def wsX6_alike_r4 : List Cond := [Cond.code yX6_lowers cX6_lowers 7 none]
def wsX6_alike : List Cond := .code yX6_alike cX6_alike 5 (some .int) :: ((wsX6_alike_r1 ++ (wsX6_alike_r2 ++ (wsX6_alike_r3 ++ wsX6_alike_r4))) ++ wsX60)
def wsX6_ones : List Cond := .code yX6_ones cX6_ones 3 (some .int) :: ([])
def wsX6_best_r1 : List Cond := [Cond.constantLong RX6 190 (-1), Cond.fieldLink RX6 7 "MirrorSharesModel" "now" "[I", Cond.fieldLink RX6 16 "MirrorSharesModel" "aside" "[I", Cond.fieldLink RX6 146 "MirrorSharesModel" "above" "J", Cond.fieldLink RX6 150 "MirrorSharesModel" "below" "J", Cond.methodLink RX6 114 yX6_isPort, Cond.instanceMethod yX6_isPort, Cond.selects RX6 yX6_isPort yX6_isPort, Cond.initialized RX6, Cond.code yX6_isPort cX6_isPort 2 (some .boolean), Cond.methodLink RX6 111 yX6_ports, Cond.static yX6_ports, Cond.code yX6_ports cX6_ports 1 (some .int), Cond.methodLink RX6 48 yX6_in, Cond.static yX6_in, Cond.code yX6_in cX6_in 3 (some .boolean), Cond.methodLink RX6 77 yX6_doors, Cond.static yX6_doors, Cond.code yX6_doors cX6_doors 3 (some .int), Cond.methodLink RX6 52 yX6_cells, Cond.static yX6_cells, Cond.code yX6_cells cX6_cells 1 (some .int), Cond.methodLink RX6 60 yX6_isDoor, Cond.static yX6_isDoor]
def wsX6_best_r2 : List Cond := [Cond.code yX6_isDoor cX6_isDoor 1 (some .boolean), Cond.methodLink RX6 88 yX6_copies, Cond.static yX6_copies, Cond.code yX6_copies cX6_copies 5 none, Cond.methodLink RX6 104 yX6_doorCell, Cond.static yX6_doorCell, Cond.code yX6_doorCell cX6_doorCell 4 (some .int), Cond.methodLink RX6 170 yX6_shares, Cond.instanceMethod yX6_shares, Cond.selects RX6 yX6_shares yX6_shares, Cond.code yX6_shares cX6_shares 5 none, Cond.fieldLink RX6 31 "MirrorSharesModel" "may" "[Z", Cond.methodLink RX6 117 yX6_portState, Cond.static yX6_portState, Cond.code yX6_portState cX6_portState 4 (some .int), Cond.methodLink RX6 137 yX6_follows, Cond.static yX6_follows, Cond.code yX6_follows cX6_follows 4 (some .int), Cond.methodLink RX6 128 yX6_waysOf, Cond.static yX6_waysOf, Cond.code yX6_waysOf cX6_waysOf 3 (some .int), Cond.methodLink RX6 56 yX6_isHalf, Cond.static yX6_isHalf, Cond.code yX6_isHalf cX6_isHalf 1 (some .boolean)]
def wsX6_best_r3 : List Cond := [Cond.methodLink RX6 131 yX6_goes, Cond.static yX6_goes, Cond.code yX6_goes cX6_goes 7 (some .int), Cond.methodLink RX6 120 yX6_turned, Cond.static yX6_turned, Cond.code yX6_turned cX6_turned 2 (some .int), Cond.methodLink RX6 124 yX6_onward, Cond.static yX6_onward, Cond.code yX6_onward cX6_onward 7 (some .int), Cond.methodLink RX6 140 yX6_isAsked, Cond.static yX6_isAsked, Cond.code yX6_isAsked cX6_isAsked 2 (some .boolean), Cond.methodLink RX6 153 yX6_gathers, Cond.instanceMethod yX6_gathers, Cond.selects RX6 yX6_gathers yX6_gathers, Cond.code yX6_gathers cX6_gathers 8 none, Cond.fieldLink RX6 134 "MirrorSharesModel" "nodeMany" "I", Cond.fieldLink RX6 25 "MirrorSharesModel" "nodes" "[I", Cond.fieldLink RX6 28 "MirrorSharesModel" "comes" "[I", Cond.methodLink RX6 157 yX6_findsMay, Cond.instanceMethod yX6_findsMay, Cond.selects RX6 yX6_findsMay yX6_findsMay, Cond.code yX6_findsMay cX6_findsMay 6 none, Cond.fieldLink RX6 35 "MirrorSharesModel" "place" "[I"]
def wsX6_best_r4 : List Cond := [Cond.methodLink RX6 161 yX6_laysRows, Cond.instanceMethod yX6_laysRows, Cond.selects RX6 yX6_laysRows yX6_laysRows, Cond.code yX6_laysRows cX6_laysRows 7 (some .int), Cond.fieldLink RX6 38 "MirrorSharesModel" "rows" "[J", Cond.constantLong RX6 144 (2), Cond.methodLink RX6 164 yX6_solves, Cond.instanceMethod yX6_solves, Cond.selects RX6 yX6_solves yX6_solves, Cond.code yX6_solves cX6_solves 11 none, Cond.methodLink RX6 167 yX6_lowers, Cond.instanceMethod yX6_lowers, Cond.selects RX6 yX6_lowers yX6_lowers, Cond.code yX6_lowers cX6_lowers 7 none, Cond.methodLink RX6 192 yX6_ones, Cond.static yX6_ones, Cond.code yX6_ones cX6_ones 3 (some .int)]
def wsX6_best : List Cond := .code yX6_best cX6_best 13 (some .int) :: ((wsX6_best_r1 ++ (wsX6_best_r2 ++ (wsX6_best_r3 ++ wsX6_best_r4))) ++ wsX60)
def wsX6_found_r1 : List Cond := [Cond.fieldLink RX6 7 "MirrorSharesModel" "now" "[I", Cond.fieldLink RX6 16 "MirrorSharesModel" "aside" "[I", Cond.fieldLink RX6 146 "MirrorSharesModel" "above" "J", Cond.fieldLink RX6 150 "MirrorSharesModel" "below" "J", Cond.methodLink RX6 114 yX6_isPort, Cond.instanceMethod yX6_isPort, Cond.selects RX6 yX6_isPort yX6_isPort, Cond.initialized RX6, Cond.code yX6_isPort cX6_isPort 2 (some .boolean), Cond.methodLink RX6 111 yX6_ports, Cond.static yX6_ports, Cond.code yX6_ports cX6_ports 1 (some .int), Cond.methodLink RX6 48 yX6_in, Cond.static yX6_in, Cond.code yX6_in cX6_in 3 (some .boolean), Cond.methodLink RX6 52 yX6_cells, Cond.static yX6_cells, Cond.code yX6_cells cX6_cells 1 (some .int), Cond.methodLink RX6 88 yX6_copies, Cond.static yX6_copies, Cond.code yX6_copies cX6_copies 5 none, Cond.methodLink RX6 170 yX6_shares, Cond.instanceMethod yX6_shares, Cond.selects RX6 yX6_shares yX6_shares]
def wsX6_found_r2 : List Cond := [Cond.code yX6_shares cX6_shares 5 none, Cond.fieldLink RX6 31 "MirrorSharesModel" "may" "[Z", Cond.methodLink RX6 117 yX6_portState, Cond.static yX6_portState, Cond.code yX6_portState cX6_portState 4 (some .int), Cond.methodLink RX6 137 yX6_follows, Cond.static yX6_follows, Cond.code yX6_follows cX6_follows 4 (some .int), Cond.methodLink RX6 128 yX6_waysOf, Cond.static yX6_waysOf, Cond.code yX6_waysOf cX6_waysOf 3 (some .int), Cond.methodLink RX6 56 yX6_isHalf, Cond.static yX6_isHalf, Cond.code yX6_isHalf cX6_isHalf 1 (some .boolean), Cond.methodLink RX6 131 yX6_goes, Cond.static yX6_goes, Cond.code yX6_goes cX6_goes 7 (some .int), Cond.methodLink RX6 120 yX6_turned, Cond.static yX6_turned, Cond.code yX6_turned cX6_turned 2 (some .int), Cond.methodLink RX6 124 yX6_onward, Cond.static yX6_onward, Cond.code yX6_onward cX6_onward 7 (some .int), Cond.methodLink RX6 140 yX6_isAsked]
def wsX6_found_r3 : List Cond := [Cond.static yX6_isAsked, Cond.code yX6_isAsked cX6_isAsked 2 (some .boolean), Cond.methodLink RX6 153 yX6_gathers, Cond.instanceMethod yX6_gathers, Cond.selects RX6 yX6_gathers yX6_gathers, Cond.code yX6_gathers cX6_gathers 8 none, Cond.fieldLink RX6 134 "MirrorSharesModel" "nodeMany" "I", Cond.fieldLink RX6 25 "MirrorSharesModel" "nodes" "[I", Cond.fieldLink RX6 28 "MirrorSharesModel" "comes" "[I", Cond.methodLink RX6 157 yX6_findsMay, Cond.instanceMethod yX6_findsMay, Cond.selects RX6 yX6_findsMay yX6_findsMay, Cond.code yX6_findsMay cX6_findsMay 6 none, Cond.fieldLink RX6 35 "MirrorSharesModel" "place" "[I", Cond.methodLink RX6 161 yX6_laysRows, Cond.instanceMethod yX6_laysRows, Cond.selects RX6 yX6_laysRows yX6_laysRows, Cond.code yX6_laysRows cX6_laysRows 7 (some .int), Cond.fieldLink RX6 38 "MirrorSharesModel" "rows" "[J", Cond.constantLong RX6 144 (2), Cond.methodLink RX6 164 yX6_solves, Cond.instanceMethod yX6_solves, Cond.selects RX6 yX6_solves yX6_solves, Cond.code yX6_solves cX6_solves 11 none]
def wsX6_found_r4 : List Cond := [Cond.methodLink RX6 167 yX6_lowers, Cond.instanceMethod yX6_lowers, Cond.selects RX6 yX6_lowers yX6_lowers, Cond.code yX6_lowers cX6_lowers 7 none]
def wsX6_found : List Cond := .code yX6_found cX6_found 10 (some .int) :: ((wsX6_found_r1 ++ (wsX6_found_r2 ++ (wsX6_found_r3 ++ wsX6_found_r4))) ++ wsX60)
def wsX6_count_r1 : List Cond := [Cond.fieldLink RX6 7 "MirrorSharesModel" "now" "[I", Cond.fieldLink RX6 92 "MirrorSharesModel" "changes" "I", Cond.fieldLink RX6 67 "MirrorSharesModel" "letters" "I", Cond.methodLink RX6 52 yX6_cells, Cond.static yX6_cells, Cond.initialized RX6, Cond.code yX6_cells cX6_cells 1 (some .int), Cond.methodLink RX6 48 yX6_in, Cond.static yX6_in, Cond.code yX6_in cX6_in 3 (some .boolean), Cond.methodLink RX6 74 yX6_halves, Cond.static yX6_halves, Cond.code yX6_halves cX6_halves 3 (some .int), Cond.methodLink RX6 56 yX6_isHalf, Cond.static yX6_isHalf, Cond.code yX6_isHalf cX6_isHalf 1 (some .boolean), Cond.methodLink RX6 77 yX6_doors, Cond.static yX6_doors, Cond.code yX6_doors cX6_doors 3 (some .int), Cond.methodLink RX6 60 yX6_isDoor, Cond.static yX6_isDoor, Cond.code yX6_isDoor cX6_isDoor 1 (some .boolean), Cond.methodLink RX6 108 yX6_openOf, Cond.static yX6_openOf]
def wsX6_count_r2 : List Cond := [Cond.code yX6_openOf cX6_openOf 3 (some .int), Cond.methodLink RX6 111 yX6_ports, Cond.static yX6_ports, Cond.code yX6_ports cX6_ports 1 (some .int)]
def wsX6_count : List Cond := .code yX6_count cX6_count 5 (some .int) :: ((wsX6_count_r1 ++ wsX6_count_r2) ++ wsX60)
def wsJ9_max_7cf53 : List Cond := .code yJ9_max_7cf53 cJ9_max_7cf53 2 (some .int) :: ([])
def wsJ9_min_7cf53 : List Cond := .code yJ9_min_7cf53 cJ9_min_7cf53 2 (some .int) :: ([])
def wsL_law_r1 : List Cond := [Cond.classLink RL 7 RX5, Cond.instantiable RX5 6, Cond.initialized RX5, Cond.classLink RL 10 RX6, Cond.instantiable RX6 19, Cond.initialized RX6, Cond.methodLink RL 9 yX5_init, Cond.instanceMethod yX5_init, Cond.code yX5_init cX5_init 1 none, Cond.methodLink RX5 3 objectInit, Cond.instanceMethod objectInit, Cond.code objectInit ⟨#[0xb1]⟩ 1 none, Cond.classLink RX5 9 RX3, Cond.instantiable RX3 2, Cond.initialized RX3, Cond.fieldLink RX5 12 "MirrorShares" "text" "LMirrorShares$Told;", Cond.classLink RX5 16 RX2, Cond.instantiable RX2 3, Cond.initialized RX2, Cond.fieldLink RX5 19 "MirrorShares" "room" "LMirrorShares$Room;", Cond.fieldLink RX5 23 "MirrorShares" "trial" "LMirrorShares$Room;", Cond.classLink RX5 26 RX1, Cond.instantiable RX1 2, Cond.initialized RX1]
def wsL_law_r2 : List Cond := [Cond.fieldLink RX5 29 "MirrorShares" "past" "LMirrorShares$Past;", Cond.classLink RX5 33 RX4, Cond.instantiable RX4 5, Cond.initialized RX4, Cond.fieldLink RX5 36 "MirrorShares" "walk" "LMirrorShares$Walk;", Cond.classLink RX5 40 RX0, Cond.instantiable RX0 7, Cond.initialized RX0, Cond.fieldLink RX5 43 "MirrorShares" "beam" "LMirrorShares$Beam;", Cond.instanceMethod yX3_init, Cond.code yX3_init cX3_init 1 none, Cond.methodLink RX3 3 objectInit, Cond.arrayClass .int, Cond.fieldLink RX3 9 "MirrorShares$Told" "letters" "[I", Cond.fieldLink RX3 15 "MirrorShares$Told" "length" "I", Cond.methodLink RX5 18 yX2_init, Cond.instanceMethod yX2_init, Cond.code yX2_init cX2_init 1 none, Cond.methodLink RX2 3 objectInit, Cond.fieldLink RX2 9 "MirrorShares$Room" "kinds" "[I", Cond.fieldLink RX2 15 "MirrorShares$Room" "columns" "I", Cond.fieldLink RX2 19 "MirrorShares$Room" "rows" "I", Cond.methodLink RX2 25 arraycopyName, Cond.native arraycopyName]
def wsL_law_r3 : List Cond := [Cond.static arraycopyName, Cond.initialized "java/lang/System", Cond.instanceMethod yX1_init, Cond.code yX1_init cX1_init 1 none, Cond.methodLink RX1 3 objectInit, Cond.fieldLink RX1 9 "MirrorShares$Past" "changes" "[I", Cond.fieldLink RX1 15 "MirrorShares$Past" "size" "I", Cond.instanceMethod yX4_init, Cond.code yX4_init cX4_init 1 none, Cond.methodLink RX4 3 objectInit, Cond.fieldLink RX4 11 "MirrorShares$Walk" "queue" "[I", Cond.fieldLink RX4 15 "MirrorShares$Walk" "cellsTo" "[I", Cond.fieldLink RX4 18 "MirrorShares$Walk" "cellsToPort" "[I", Cond.fieldLink RX4 21 "MirrorShares$Walk" "waiting" "I", Cond.fieldLink RX4 25 "MirrorShares$Walk" "litCells" "I", Cond.instanceMethod yX0_init, Cond.code yX0_init cX0_init 1 none, Cond.methodLink RX0 5 objectInit, Cond.fieldLink RX0 11 "MirrorShares$Beam" "splitPlace" "[I", Cond.fieldLink RX0 15 "MirrorShares$Beam" "splitNumber" "[I", Cond.fieldLink RX0 18 "MirrorShares$Beam" "rayEnd" "[I", Cond.classLink RX0 21 "[[J", Cond.arrayClass .long, Cond.fieldLink RX0 23 "MirrorShares$Beam" "rows" "[[J"]
def wsL_law_r4 : List Cond := [Cond.fieldLink RX0 26 "MirrorShares$Beam" "parts" "[J", Cond.fieldLink RX0 30 "MirrorShares$Beam" "splits" "I", Cond.fieldLink RX0 34 "MirrorShares$Beam" "whole" "J", Cond.methodLink RL 12 yX6_init, Cond.instanceMethod yX6_init, Cond.code yX6_init cX6_init 1 none, Cond.methodLink RX6 1 objectInit, Cond.fieldLink RX6 7 "MirrorSharesModel" "now" "[I", Cond.fieldLink RX6 13 "MirrorSharesModel" "read" "[I", Cond.fieldLink RX6 16 "MirrorSharesModel" "aside" "[I", Cond.fieldLink RX6 19 "MirrorSharesModel" "past" "[I", Cond.fieldLink RX6 22 "MirrorSharesModel" "text" "[I", Cond.fieldLink RX6 25 "MirrorSharesModel" "nodes" "[I", Cond.fieldLink RX6 28 "MirrorSharesModel" "comes" "[I", Cond.arrayClass .boolean, Cond.fieldLink RX6 31 "MirrorSharesModel" "may" "[Z", Cond.fieldLink RX6 35 "MirrorSharesModel" "place" "[I", Cond.fieldLink RX6 38 "MirrorSharesModel" "rows" "[J", Cond.fieldLink RX6 42 "MirrorSharesModel" "line" "[I", Cond.fieldLink RX6 45 "MirrorSharesModel" "took" "[I", Cond.methodLink RL 13 yX5_write, Cond.instanceMethod yX5_write, Cond.selects RX5 yX5_write yX5_write, Cond.code yX5_write cX5_write 2 (some .int)]
def wsL_law_r5 : List Cond := [Cond.methodLink RX5 47 yX3_append, Cond.instanceMethod yX3_append, Cond.selects RX3 yX3_append yX3_append, Cond.code yX3_append cX3_append 2 (some .int), Cond.methodLink RL 17 yX6_write, Cond.instanceMethod yX6_write, Cond.selects RX6 yX6_write yX6_write, Cond.code yX6_write cX6_write 2 (some .int), Cond.fieldLink RX6 67 "MirrorSharesModel" "letters" "I", Cond.methodLink RX6 48 yX6_in, Cond.static yX6_in, Cond.code yX6_in cX6_in 3 (some .boolean), Cond.methodLink RL 18 yX5_wipe, Cond.instanceMethod yX5_wipe, Cond.selects RX5 yX5_wipe yX5_wipe, Cond.code yX5_wipe cX5_wipe 1 (some .int), Cond.methodLink RX5 51 yX3_clear, Cond.instanceMethod yX3_clear, Cond.selects RX3 yX3_clear yX3_clear, Cond.code yX3_clear cX3_clear 2 (some .int), Cond.methodLink RL 22 yX6_wipe, Cond.instanceMethod yX6_wipe, Cond.selects RX6 yX6_wipe yX6_wipe, Cond.code yX6_wipe cX6_wipe 2 (some .int)]
def wsL_law_r6 : List Cond := [Cond.methodLink RL 23 yX5_fault, Cond.instanceMethod yX5_fault, Cond.selects RX5 yX5_fault yX5_fault, Cond.code yX5_fault cX5_fault 1 (some .int), Cond.methodLink RX5 55 yX3_readInto, Cond.instanceMethod yX3_readInto, Cond.selects RX3 yX3_readInto yX3_readInto, Cond.code yX3_readInto cX3_readInto 5 (some .int), Cond.methodLink RX3 19 yX2_empty, Cond.instanceMethod yX2_empty, Cond.selects RX2 yX2_empty yX2_empty, Cond.code yX2_empty cX2_empty 1 none, Cond.methodLink RX3 24 yX3_endOfItem, Cond.instanceMethod yX3_endOfItem, Cond.selects RX3 yX3_endOfItem yX3_endOfItem, Cond.code yX3_endOfItem cX3_endOfItem 3 (some .int), Cond.methodLink RX3 32 yX3_letterAt, Cond.instanceMethod yX3_letterAt, Cond.selects RX3 yX3_letterAt yX3_letterAt, Cond.code yX3_letterAt cX3_letterAt 2 (some .int), Cond.methodLink RX3 28 yX3_readRow, Cond.instanceMethod yX3_readRow, Cond.selects RX3 yX3_readRow yX3_readRow, Cond.code yX3_readRow cX3_readRow 8 (some .boolean)]
def wsL_law_r7 : List Cond := [Cond.methodLink RX3 35 yX2_addRow, Cond.instanceMethod yX2_addRow, Cond.selects RX2 yX2_addRow yX2_addRow, Cond.code yX2_addRow cX2_addRow 4 (some .boolean), Cond.methodLink RX2 52 yX2_tell, Cond.instanceMethod yX2_tell, Cond.selects RX2 yX2_tell yX2_tell, Cond.code yX2_tell cX2_tell 3 none, Cond.methodLink RX2 35 yX2_cells, Cond.instanceMethod yX2_cells, Cond.selects RX2 yX2_cells yX2_cells, Cond.code yX2_cells cX2_cells 1 (some .int), Cond.methodLink RX3 39 yX2_cells, Cond.methodLink RX3 45 yJ0_indexOf_0f7a4, Cond.instanceMethod yJ0_indexOf_0f7a4, Cond.selects RJ0 yJ0_indexOf_0f7a4 yJ0_indexOf_0f7a4, Cond.initialized RJ0, Cond.code yJ0_indexOf_0f7a4 cJ0_indexOf_0f7a4 2 (some .int), Cond.methodLink RJ0 633 yJ0_indexOf_7cf53, Cond.instanceMethod yJ0_indexOf_7cf53, Cond.selects RJ0 yJ0_indexOf_7cf53 yJ0_indexOf_7cf53, Cond.code yJ0_indexOf_7cf53 cJ0_indexOf_7cf53 3 (some .int), Cond.fieldLink RJ0 9 "java/lang/String" "value" "[B", Cond.methodLink RJ0 492 yJ0_isLatin1_aae02]
def wsL_law_r8 : List Cond := [Cond.instanceMethod yJ0_isLatin1_aae02, Cond.selects RJ0 yJ0_isLatin1_aae02 yJ0_isLatin1_aae02, Cond.code yJ0_isLatin1_aae02 cJ0_isLatin1_aae02 1 (some .boolean), Cond.fieldLink RJ0 38 "java/lang/String" "COMPACT_STRINGS" "Z", Cond.fieldLink RJ0 15 "java/lang/String" "coder" "B", Cond.methodLink RJ0 505 yJ0_length_8abf5, Cond.instanceMethod yJ0_length_8abf5, Cond.selects RJ0 yJ0_length_8abf5 yJ0_length_8abf5, Cond.code yJ0_length_8abf5 cJ0_length_8abf5 1 (some .int), Cond.methodLink RJ0 335 yJ0_coder_7d493, Cond.instanceMethod yJ0_coder_7d493, Cond.selects RJ0 yJ0_coder_7d493 yJ0_coder_7d493, Cond.code yJ0_coder_7d493 cJ0_coder_7d493 1 (some .byte), Cond.methodLink RJ0 637 yJ1_indexOf_4cfef, Cond.static yJ1_indexOf_4cfef, Cond.initialized RJ1, Cond.code yJ1_indexOf_4cfef cJ1_indexOf_4cfef 4 (some .int), Cond.methodLink RJ1 92 Lib.Math.max.name, Cond.static Lib.Math.max.name, Cond.initialized "java/lang/Math", Cond.code Lib.Math.max.name Lib.Math.max.code 2 (some .int), Cond.methodLink RJ1 38 Lib.Math.min.name, Cond.static Lib.Math.min.name, Cond.code Lib.Math.min.name Lib.Math.min.code 2 (some .int)]
def wsL_law_r9 : List Cond := [Cond.methodLink RJ1 88 yJ1_canEncode_9a6ad, Cond.static yJ1_canEncode_9a6ad, Cond.code yJ1_canEncode_9a6ad cJ1_canEncode_9a6ad 1 (some .boolean), Cond.methodLink RJ1 95 yJ1_indexOfChar_4cfef, Cond.static yJ1_indexOfChar_4cfef, Cond.code yJ1_indexOfChar_4cfef cJ1_indexOfChar_4cfef 6 (some .int), Cond.methodLink RJ0 640 yJ2_indexOf_4cfef, Cond.static yJ2_indexOf_4cfef, Cond.initialized RJ2, Cond.code yJ2_indexOf_4cfef cJ2_indexOf_4cfef 4 (some .int), Cond.methodLink RJ2 224 Lib.Math.max.name, Cond.methodLink RJ2 183 Lib.Math.min.name, Cond.constant RJ2 227 (65536), Cond.methodLink RJ2 228 yJ2_indexOfChar_4cfef, Cond.static yJ2_indexOfChar_4cfef, Cond.code yJ2_indexOfChar_4cfef cJ2_indexOfChar_4cfef 4 (some .int), Cond.methodLink RJ2 96 yJ2_checkBoundsBeginEnd_d044e, Cond.static yJ2_checkBoundsBeginEnd_d044e, Cond.code yJ2_checkBoundsBeginEnd_d044e cJ2_checkBoundsBeginEnd_d044e 3 none, Cond.methodLink RJ2 48 yJ2_length_9d52b, Cond.static yJ2_length_9d52b, Cond.code yJ2_length_9d52b cJ2_length_9d52b 1 (some .int), Cond.methodLink RJ2 241 yJ0_checkBoundsBeginEnd_23922, Cond.static yJ0_checkBoundsBeginEnd_23922]
def wsL_law_r10 : List Cond := [Cond.code yJ0_checkBoundsBeginEnd_23922 cJ0_checkBoundsBeginEnd_23922 3 none, Cond.fieldLink RJ0 1053 "jdk/internal/util/Preconditions" "SIOOBE_FORMATTER" "Ljava/util/function/BiFunction;", Cond.methodLink RJ0 1062 yJ3_checkFromToIndex_8c36e, Cond.static yJ3_checkFromToIndex_8c36e, Cond.initialized RJ3, Cond.code yJ3_checkFromToIndex_8c36e cJ3_checkFromToIndex_8c36e 4 (some .int), Cond.methodLink RJ2 244 yJ2_indexOfCharUnsafe_4cfef, Cond.static yJ2_indexOfCharUnsafe_4cfef, Cond.code yJ2_indexOfCharUnsafe_4cfef cJ2_indexOfCharUnsafe_4cfef 5 (some .int), Cond.methodLink RJ2 71 yJ2_getChar_3b067, Cond.static yJ2_getChar_3b067, Cond.code yJ2_getChar_3b067 cJ2_getChar_3b067 2 (some .char), Cond.fieldLink RJ2 44 "java/lang/StringUTF16" "$assertionsDisabled" "Z", Cond.fieldLink RJ2 59 "java/lang/StringUTF16" "HI_BYTE_SHIFT" "I", Cond.fieldLink RJ2 63 "java/lang/StringUTF16" "LO_BYTE_SHIFT" "I", Cond.methodLink RJ2 232 yJ2_indexOfSupplementary_4cfef, Cond.static yJ2_indexOfSupplementary_4cfef, Cond.code yJ2_indexOfSupplementary_4cfef cJ2_indexOfSupplementary_4cfef 7 (some .int), Cond.methodLink RJ2 164 yJ11_isValidCodePoint_9a6ad, Cond.static yJ11_isValidCodePoint_9a6ad, Cond.initialized RJ11, Cond.code yJ11_isValidCodePoint_9a6ad cJ11_isValidCodePoint_9a6ad 2 (some .boolean), Cond.methodLink RJ2 157 yJ11_highSurrogate_5068e, Cond.static yJ11_highSurrogate_5068e]
def wsL_law_r11 : List Cond := [Cond.code yJ11_highSurrogate_5068e cJ11_highSurrogate_5068e 1 (some .char), Cond.constant RJ11 110 (55232), Cond.methodLink RJ2 161 yJ11_lowSurrogate_5068e, Cond.static yJ11_lowSurrogate_5068e, Cond.code yJ11_lowSurrogate_5068e cJ11_lowSurrogate_5068e 1 (some .char), Cond.constant RJ11 76 (56320), Cond.methodLink RX3 50 yX2_tell, Cond.methodLink RX3 54 yX2_isOverfull, Cond.instanceMethod yX2_isOverfull, Cond.selects RX2 yX2_isOverfull yX2_isOverfull, Cond.code yX2_isOverfull cX2_isOverfull 1 (some .boolean), Cond.methodLink RX2 42 yX2_countKinds, Cond.instanceMethod yX2_countKinds, Cond.selects RX2 yX2_countKinds yX2_countKinds, Cond.code yX2_countKinds cX2_countKinds 6 (some .int), Cond.methodLink RX2 38 yX2_kindAt, Cond.instanceMethod yX2_kindAt, Cond.selects RX2 yX2_kindAt yX2_kindAt, Cond.code yX2_kindAt cX2_kindAt 2 (some .int), Cond.methodLink RL 26 yX6_fault, Cond.instanceMethod yX6_fault, Cond.selects RX6 yX6_fault yX6_fault, Cond.code yX6_fault cX6_fault 1 (some .int), Cond.methodLink RX6 84 yX6_reads]
def wsL_law_r12 : List Cond := [Cond.instanceMethod yX6_reads, Cond.selects RX6 yX6_reads yX6_reads, Cond.code yX6_reads cX6_reads 2 (some .int), Cond.fieldLink RX6 63 "MirrorSharesModel" "spot" "I", Cond.methodLink RX6 80 yX6_takesRow, Cond.instanceMethod yX6_takesRow, Cond.selects RX6 yX6_takesRow yX6_takesRow, Cond.code yX6_takesRow cX6_takesRow 4 (some .boolean), Cond.methodLink RX6 70 yX6_kindOf, Cond.static yX6_kindOf, Cond.code yX6_kindOf cX6_kindOf 1 (some .int), Cond.methodLink RX6 74 yX6_halves, Cond.static yX6_halves, Cond.code yX6_halves cX6_halves 3 (some .int), Cond.methodLink RX6 52 yX6_cells, Cond.static yX6_cells, Cond.code yX6_cells cX6_cells 1 (some .int), Cond.methodLink RX6 56 yX6_isHalf, Cond.static yX6_isHalf, Cond.code yX6_isHalf cX6_isHalf 1 (some .boolean), Cond.methodLink RX6 77 yX6_doors, Cond.static yX6_doors, Cond.code yX6_doors cX6_doors 3 (some .int), Cond.methodLink RX6 60 yX6_isDoor]
def wsL_law_r13 : List Cond := [Cond.static yX6_isDoor, Cond.code yX6_isDoor cX6_isDoor 1 (some .boolean), Cond.methodLink RL 27 yX5_lay, Cond.instanceMethod yX5_lay, Cond.selects RX5 yX5_lay yX5_lay, Cond.code yX5_lay cX5_lay 1 (some .int), Cond.methodLink RX5 63 yX2_become, Cond.instanceMethod yX2_become, Cond.selects RX2 yX2_become yX2_become, Cond.code yX2_become cX2_become 2 none, Cond.methodLink RX5 67 yX1_forget, Cond.instanceMethod yX1_forget, Cond.selects RX1 yX1_forget yX1_forget, Cond.code yX1_forget cX1_forget 1 none, Cond.methodLink RX5 70 yX2_cells, Cond.methodLink RL 30 yX6_lay, Cond.instanceMethod yX6_lay, Cond.selects RX6 yX6_lay yX6_lay, Cond.code yX6_lay cX6_lay 1 (some .int), Cond.fieldLink RX6 92 "MirrorSharesModel" "changes" "I", Cond.methodLink RX6 88 yX6_copies, Cond.static yX6_copies, Cond.code yX6_copies cX6_copies 5 none, Cond.methodLink RL 31 yX5_put]
def wsL_law_r14 : List Cond := [Cond.instanceMethod yX5_put, Cond.selects RX5 yX5_put yX5_put, Cond.code yX5_put cX5_put 4 (some .int), Cond.methodLink RX5 73 yX2_kindAt, Cond.methodLink RX5 76 yX5_tryCell, Cond.instanceMethod yX5_tryCell, Cond.selects RX5 yX5_tryCell yX5_tryCell, Cond.code yX5_tryCell cX5_tryCell 3 none, Cond.methodLink RX5 120 yX2_tell, Cond.methodLink RX5 80 yX2_isOverfull, Cond.methodLink RX5 84 yX5_change, Cond.instanceMethod yX5_change, Cond.selects RX5 yX5_change yX5_change, Cond.code yX5_change cX5_change 4 none, Cond.methodLink RX5 123 yX1_rememberKind, Cond.instanceMethod yX1_rememberKind, Cond.selects RX1 yX1_rememberKind yX1_rememberKind, Cond.code yX1_rememberKind cX1_rememberKind 3 none, Cond.methodLink RX1 19 yX1_remember, Cond.instanceMethod yX1_remember, Cond.selects RX1 yX1_remember yX1_remember, Cond.code yX1_remember cX1_remember 2 none, Cond.methodLink RX1 23 arraycopyName, Cond.methodLink RL 35 yX6_put]
def wsL_law_r15 : List Cond := [Cond.instanceMethod yX6_put, Cond.selects RX6 yX6_put yX6_put, Cond.code yX6_put cX6_put 6 (some .int), Cond.methodLink RX6 95 yX6_isCell, Cond.instanceMethod yX6_isCell, Cond.selects RX6 yX6_isCell yX6_isCell, Cond.code yX6_isCell cX6_isCell 2 (some .boolean), Cond.methodLink RX6 98 yX6_keeps, Cond.instanceMethod yX6_keeps, Cond.selects RX6 yX6_keeps yX6_keeps, Cond.code yX6_keeps cX6_keeps 2 none, Cond.methodLink RL 36 yX5_door, Cond.instanceMethod yX5_door, Cond.selects RX5 yX5_door yX5_door, Cond.code yX5_door cX5_door 6 (some .int), Cond.methodLink RX5 88 yX2_doorCell, Cond.instanceMethod yX2_doorCell, Cond.selects RX2 yX2_doorCell yX2_doorCell, Cond.code yX2_doorCell cX2_doorCell 4 (some .int), Cond.methodLink RX5 91 yX5_isPart, Cond.static yX5_isPart, Cond.code yX5_isPart cX5_isPart 2 (some .boolean), Cond.methodLink RX5 95 yX2_countKinds, Cond.methodLink RL 39 yX6_door]
def wsL_law_r16 : List Cond := [Cond.instanceMethod yX6_door, Cond.selects RX6 yX6_door yX6_door, Cond.code yX6_door cX6_door 4 (some .int), Cond.methodLink RX6 101 yX6_isTheDoor, Cond.instanceMethod yX6_isTheDoor, Cond.selects RX6 yX6_isTheDoor yX6_isTheDoor, Cond.code yX6_isTheDoor cX6_isTheDoor 2 (some .boolean), Cond.methodLink RX6 104 yX6_doorCell, Cond.static yX6_doorCell, Cond.code yX6_doorCell cX6_doorCell 4 (some .int), Cond.methodLink RX6 108 yX6_openOf, Cond.static yX6_openOf, Cond.code yX6_openOf cX6_openOf 3 (some .int), Cond.methodLink RL 40 yX5_turn, Cond.instanceMethod yX5_turn, Cond.selects RX5 yX5_turn yX5_turn, Cond.code yX5_turn cX5_turn 1 (some .int), Cond.methodLink RX5 102 yX5_turnRoom, Cond.instanceMethod yX5_turnRoom, Cond.selects RX5 yX5_turnRoom yX5_turnRoom, Cond.code yX5_turnRoom cX5_turnRoom 1 none, Cond.methodLink RX5 126 yX2_becomeTurned, Cond.instanceMethod yX2_becomeTurned, Cond.selects RX2 yX2_becomeTurned yX2_becomeTurned]
def wsL_law_r17 : List Cond := [Cond.code yX2_becomeTurned cX2_becomeTurned 5 none, Cond.methodLink RX2 49 yX2_turnedKind, Cond.static yX2_turnedKind, Cond.code yX2_turnedKind cX2_turnedKind 1 (some .int), Cond.methodLink RX5 105 yX1_rememberTurn, Cond.instanceMethod yX1_rememberTurn, Cond.selects RX1 yX1_rememberTurn yX1_rememberTurn, Cond.code yX1_rememberTurn cX1_rememberTurn 1 none, Cond.methodLink RL 43 yX6_turn, Cond.instanceMethod yX6_turn, Cond.selects RX6 yX6_turn yX6_turn, Cond.code yX6_turn cX6_turn 7 (some .int), Cond.methodLink RL 44 yX5_undo, Cond.instanceMethod yX5_undo, Cond.selects RX5 yX5_undo yX5_undo, Cond.code yX5_undo cX5_undo 2 (some .int), Cond.methodLink RX5 111 yX1_takeLatest, Cond.instanceMethod yX1_takeLatest, Cond.selects RX1 yX1_takeLatest yX1_takeLatest, Cond.code yX1_takeLatest cX1_takeLatest 1 (some .int), Cond.methodLink RX5 114 yX1_cellOf, Cond.static yX1_cellOf, Cond.code yX1_cellOf cX1_cellOf 1 (some .int), Cond.methodLink RX5 117 yX1_kindOf]
def wsL_law_r18 : List Cond := [Cond.static yX1_kindOf, Cond.code yX1_kindOf cX1_kindOf 1 (some .int), Cond.methodLink RL 47 yX6_undo, Cond.instanceMethod yX6_undo, Cond.selects RX6 yX6_undo yX6_undo, Cond.code yX6_undo cX6_undo 1 (some .int), Cond.methodLink RL 48 yX5_cell, Cond.instanceMethod yX5_cell, Cond.selects RX5 yX5_cell yX5_cell, Cond.code yX5_cell cX5_cell 2 (some .int), Cond.methodLink RL 51 yX6_cell, Cond.instanceMethod yX6_cell, Cond.selects RX6 yX6_cell yX6_cell, Cond.code yX6_cell cX6_cell 2 (some .int), Cond.methodLink RL 52 yX5_doorAt, Cond.instanceMethod yX5_doorAt, Cond.selects RX5 yX5_doorAt yX5_doorAt, Cond.code yX5_doorAt cX5_doorAt 2 (some .int), Cond.methodLink RL 55 yX6_doorAt, Cond.instanceMethod yX6_doorAt, Cond.selects RX6 yX6_doorAt yX6_doorAt, Cond.code yX6_doorAt cX6_doorAt 2 (some .int), Cond.methodLink RL 56 yX5_port, Cond.instanceMethod yX5_port]
def wsL_law_r19 : List Cond := [Cond.selects RX5 yX5_port yX5_port, Cond.code yX5_port cX5_port 3 (some .int), Cond.methodLink RX5 129 yX2_hasPort, Cond.instanceMethod yX2_hasPort, Cond.selects RX2 yX2_hasPort yX2_hasPort, Cond.code yX2_hasPort cX2_hasPort 2 (some .boolean), Cond.methodLink RX2 31 yX2_ports, Cond.instanceMethod yX2_ports, Cond.selects RX2 yX2_ports yX2_ports, Cond.code yX2_ports cX2_ports 1 (some .int), Cond.methodLink RX5 133 yX2_portCell, Cond.instanceMethod yX2_portCell, Cond.selects RX2 yX2_portCell yX2_portCell, Cond.code yX2_portCell cX2_portCell 2 (some .int), Cond.methodLink RX2 46 yX2_portDirection, Cond.instanceMethod yX2_portDirection, Cond.selects RX2 yX2_portDirection yX2_portDirection, Cond.code yX2_portDirection cX2_portDirection 2 (some .int), Cond.methodLink RX5 136 yX2_portDirection, Cond.methodLink RL 59 yX6_port, Cond.instanceMethod yX6_port, Cond.selects RX6 yX6_port yX6_port, Cond.code yX6_port cX6_port 4 (some .int), Cond.methodLink RX6 114 yX6_isPort]
def wsL_law_r20 : List Cond := [Cond.instanceMethod yX6_isPort, Cond.selects RX6 yX6_isPort yX6_isPort, Cond.code yX6_isPort cX6_isPort 2 (some .boolean), Cond.methodLink RX6 111 yX6_ports, Cond.static yX6_ports, Cond.code yX6_ports cX6_ports 1 (some .int), Cond.methodLink RX6 117 yX6_portState, Cond.static yX6_portState, Cond.code yX6_portState cX6_portState 4 (some .int), Cond.methodLink RL 60 yX5_share, Cond.instanceMethod yX5_share, Cond.selects RX5 yX5_share yX5_share, Cond.code yX5_share cX5_share 4 (some .int), Cond.methodLink RX5 139 yX5_hasPorts, Cond.instanceMethod yX5_hasPorts, Cond.selects RX5 yX5_hasPorts yX5_hasPorts, Cond.code yX5_hasPorts cX5_hasPorts 3 (some .boolean), Cond.methodLink RX5 142 yX0_shine, Cond.instanceMethod yX0_shine, Cond.selects RX0 yX0_shine yX0_shine, Cond.code yX0_shine cX0_shine 4 none, Cond.methodLink RX0 46 yX2_portCell, Cond.methodLink RX0 52 yX2_portDirection, Cond.methodLink RX0 55 yX0_endOf]
def wsL_law_r21 : List Cond := [Cond.static yX0_endOf, Cond.code yX0_endOf cX0_endOf 8 (some .int), Cond.methodLink RX0 85 yX2_kindAt, Cond.static yX5_isHalf, Cond.code yX5_isHalf cX5_isHalf 1 (some .boolean), Cond.static yX5_turnedBy, Cond.code yX5_turnedBy cX5_turnedBy 3 (some .int), Cond.static yX5_letsOn, Cond.code yX5_letsOn cX5_letsOn 1 (some .boolean), Cond.methodLink RX5 209 yX5_isHalf, Cond.static yX5_turnsBeam, Cond.code yX5_turnsBeam cX5_turnsBeam 1 (some .boolean), Cond.methodLink RX0 92 yX2_beyond, Cond.instanceMethod yX2_beyond, Cond.selects RX2 yX2_beyond yX2_beyond, Cond.code yX2_beyond cX2_beyond 5 (some .int), Cond.methodLink RX0 59 yX0_findSplits, Cond.instanceMethod yX0_findSplits, Cond.selects RX0 yX0_findSplits yX0_findSplits, Cond.code yX0_findSplits cX0_findSplits 6 none, Cond.methodLink RX0 73 yJ7_fill_53178, Cond.static yJ7_fill_53178, Cond.initialized RJ7, Cond.code yJ7_fill_53178 cJ7_fill_53178 4 none]
def wsL_law_r22 : List Cond := [Cond.methodLink RX0 79 yX0_noteSplit, Cond.instanceMethod yX0_noteSplit, Cond.selects RX0 yX0_noteSplit yX0_noteSplit, Cond.code yX0_noteSplit cX0_noteSplit 2 none, Cond.methodLink RX0 82 yX0_endBeyond, Cond.static yX0_endBeyond, Cond.code yX0_endBeyond cX0_endBeyond 4 (some .int), Cond.methodLink RX0 63 yX0_setRows, Cond.instanceMethod yX0_setRows, Cond.selects RX0 yX0_setRows yX0_setRows, Cond.code yX0_setRows cX0_setRows 4 none, Cond.constantLong RX0 108 (2), Cond.methodLink RX0 105 yJ7_fill_d0a16, Cond.static yJ7_fill_d0a16, Cond.code yJ7_fill_d0a16 cJ7_fill_d0a16 5 none, Cond.methodLink RX0 66 yX0_solveRows, Cond.instanceMethod yX0_solveRows, Cond.selects RX0 yX0_solveRows yX0_solveRows, Cond.code yX0_solveRows cX0_solveRows 5 none, Cond.methodLink RX0 110 yX0_clearColumn, Cond.instanceMethod yX0_clearColumn, Cond.selects RX0 yX0_clearColumn yX0_clearColumn, Cond.code yX0_clearColumn cX0_clearColumn 7 none, Cond.methodLink RX0 69 yX0_addParts]
def wsL_law_r23 : List Cond := [Cond.instanceMethod yX0_addParts, Cond.selects RX0 yX0_addParts yX0_addParts, Cond.code yX0_addParts cX0_addParts 3 none, Cond.methodLink RX0 114 yX0_addPart, Cond.instanceMethod yX0_addPart, Cond.selects RX0 yX0_addPart yX0_addPart, Cond.code yX0_addPart cX0_addPart 4 none, Cond.methodLink RX5 146 yX0_outAt, Cond.instanceMethod yX0_outAt, Cond.selects RX0 yX0_outAt yX0_outAt, Cond.code yX0_outAt cX0_outAt 2 (some .long), Cond.methodLink RX5 154 yX5_lowest, Cond.static yX5_lowest, Cond.code yX5_lowest cX5_lowest 7 (some .int), Cond.methodLink RX5 204 yX5_commonDivisor, Cond.static yX5_commonDivisor, Cond.code yX5_commonDivisor cX5_commonDivisor 11 (some .long), Cond.methodLink RL 64 yX6_share, Cond.instanceMethod yX6_share, Cond.selects RX6 yX6_share yX6_share, Cond.code yX6_share cX6_share 4 (some .int), Cond.fieldLink RX6 146 "MirrorSharesModel" "above" "J", Cond.fieldLink RX6 150 "MirrorSharesModel" "below" "J", Cond.methodLink RX6 170 yX6_shares]
def wsL_law_r24 : List Cond := [Cond.instanceMethod yX6_shares, Cond.selects RX6 yX6_shares yX6_shares, Cond.code yX6_shares cX6_shares 5 none, Cond.methodLink RX6 137 yX6_follows, Cond.static yX6_follows, Cond.code yX6_follows cX6_follows 4 (some .int), Cond.methodLink RX6 128 yX6_waysOf, Cond.static yX6_waysOf, Cond.code yX6_waysOf cX6_waysOf 3 (some .int), Cond.methodLink RX6 131 yX6_goes, Cond.static yX6_goes, Cond.code yX6_goes cX6_goes 7 (some .int), Cond.methodLink RX6 120 yX6_turned, Cond.static yX6_turned, Cond.code yX6_turned cX6_turned 2 (some .int), Cond.methodLink RX6 124 yX6_onward, Cond.static yX6_onward, Cond.code yX6_onward cX6_onward 7 (some .int), Cond.methodLink RX6 140 yX6_isAsked, Cond.static yX6_isAsked, Cond.code yX6_isAsked cX6_isAsked 2 (some .boolean), Cond.methodLink RX6 153 yX6_gathers, Cond.instanceMethod yX6_gathers, Cond.selects RX6 yX6_gathers yX6_gathers]
def wsL_law_r25 : List Cond := [Cond.code yX6_gathers cX6_gathers 8 none, Cond.fieldLink RX6 134 "MirrorSharesModel" "nodeMany" "I", Cond.methodLink RX6 157 yX6_findsMay, Cond.instanceMethod yX6_findsMay, Cond.selects RX6 yX6_findsMay yX6_findsMay, Cond.code yX6_findsMay cX6_findsMay 6 none, Cond.methodLink RX6 161 yX6_laysRows, Cond.instanceMethod yX6_laysRows, Cond.selects RX6 yX6_laysRows yX6_laysRows, Cond.code yX6_laysRows cX6_laysRows 7 (some .int), Cond.constantLong RX6 144 (2), Cond.methodLink RX6 164 yX6_solves, Cond.instanceMethod yX6_solves, Cond.selects RX6 yX6_solves yX6_solves, Cond.code yX6_solves cX6_solves 11 none, Cond.methodLink RX6 167 yX6_lowers, Cond.instanceMethod yX6_lowers, Cond.selects RX6 yX6_lowers yX6_lowers, Cond.code yX6_lowers cX6_lowers 7 none, Cond.methodLink RL 65 yX5_lost, Cond.instanceMethod yX5_lost, Cond.selects RX5 yX5_lost yX5_lost, Cond.code yX5_lost cX5_lost 3 (some .int), Cond.methodLink RX5 158 yX0_swallowed]
def wsL_law_r26 : List Cond := [Cond.instanceMethod yX0_swallowed, Cond.selects RX0 yX0_swallowed yX0_swallowed, Cond.code yX0_swallowed cX0_swallowed 1 (some .long), Cond.methodLink RX5 162 yX0_caught, Cond.instanceMethod yX0_caught, Cond.selects RX0 yX0_caught yX0_caught, Cond.code yX0_caught cX0_caught 4 (some .long), Cond.methodLink RX0 38 yX0_swallowed, Cond.methodLink RX0 42 yX0_outAt, Cond.methodLink RL 68 yX6_lost, Cond.instanceMethod yX6_lost, Cond.selects RX6 yX6_lost yX6_lost, Cond.code yX6_lost cX6_lost 3 (some .int), Cond.methodLink RX6 174 yX6_lostOf, Cond.instanceMethod yX6_lostOf, Cond.selects RX6 yX6_lostOf yX6_lostOf, Cond.code yX6_lostOf cX6_lostOf 3 (some .long), Cond.methodLink RL 69 yX5_bits, Cond.instanceMethod yX5_bits, Cond.selects RX5 yX5_bits yX5_bits, Cond.code yX5_bits cX5_bits 5 (some .int), Cond.methodLink RX5 165 yX5_floatBits, Cond.static yX5_floatBits, Cond.code yX5_floatBits cX5_floatBits 6 (some .int)]
def wsL_law_r27 : List Cond := [Cond.constantFloat RX5 208 (1258291200), Cond.methodLink RL 72 yX6_bits, Cond.instanceMethod yX6_bits, Cond.selects RX6 yX6_bits yX6_bits, Cond.code yX6_bits cX6_bits 3 (some .int), Cond.methodLink RX6 178 yJxf58ca_floatToIntBits_5c35a, Cond.static yJxf58ca_floatToIntBits_5c35a, Cond.initialized RJxf58ca, Cond.code yJxf58ca_floatToIntBits_5c35a cJxf58ca_floatToIntBits_5c35a 1 (some .int), Cond.methodLink RJxf58ca 74 ⟨"java/lang/Float", "floatToRawIntBits", "(F)I"⟩, Cond.native ⟨"java/lang/Float", "floatToRawIntBits", "(F)I"⟩, Cond.static ⟨"java/lang/Float", "floatToRawIntBits", "(F)I"⟩, Cond.initialized "java/lang/Float", Cond.constant RJxf58ca 77 (2143289344), Cond.methodLink RJxf58ca 59 yJxf58ca_isNaN_12338, Cond.static yJxf58ca_isNaN_12338, Cond.code yJxf58ca_isNaN_12338 cJxf58ca_isNaN_12338 1 (some .boolean), Cond.methodLink RL 73 yX5_lit, Cond.instanceMethod yX5_lit, Cond.selects RX5 yX5_lit yX5_lit, Cond.code yX5_lit cX5_lit 2 (some .int), Cond.methodLink RX5 168 yX4_goFrom, Cond.instanceMethod yX4_goFrom, Cond.selects RX4 yX4_goFrom yX4_goFrom]
def wsL_law_r28 : List Cond := [Cond.code yX4_goFrom cX4_goFrom 4 none, Cond.methodLink RX4 28 yJ7_fill_53178, Cond.methodLink RX4 34 yX2_portCell, Cond.methodLink RX4 40 yX2_portDirection, Cond.methodLink RX4 43 yX4_enter, Cond.instanceMethod yX4_enter, Cond.selects RX4 yX4_enter yX4_enter, Cond.code yX4_enter cX4_enter 5 none, Cond.methodLink RX4 47 yX4_spread, Cond.instanceMethod yX4_spread, Cond.selects RX4 yX4_spread yX4_spread, Cond.code yX4_spread cX4_spread 7 none, Cond.methodLink RX4 51 yX2_kindAt, Cond.methodLink RX4 58 yX4_leave, Cond.instanceMethod yX4_leave, Cond.selects RX4 yX4_leave yX4_leave, Cond.code yX4_leave cX4_leave 6 none, Cond.methodLink RX4 69 yX2_beyond, Cond.methodLink RX4 72 yX4_reach, Cond.instanceMethod yX4_reach, Cond.selects RX4 yX4_reach yX4_reach, Cond.code yX4_reach cX4_reach 3 none, Cond.methodLink RL 76 yX6_lit, Cond.instanceMethod yX6_lit]
def wsL_law_r29 : List Cond := [Cond.selects RX6 yX6_lit yX6_lit, Cond.code yX6_lit cX6_lit 4 (some .int), Cond.fieldLink RX6 184 "MirrorSharesModel" "met" "I", Cond.methodLink RX6 187 yX6_spreads, Cond.instanceMethod yX6_spreads, Cond.selects RX6 yX6_spreads yX6_spreads, Cond.code yX6_spreads cX6_spreads 6 none, Cond.methodLink RL 77 yX5_far, Cond.instanceMethod yX5_far, Cond.selects RX5 yX5_far yX5_far, Cond.code yX5_far cX5_far 3 (some .int), Cond.methodLink RX5 174 yX4_fewestTo, Cond.instanceMethod yX4_fewestTo, Cond.selects RX4 yX4_fewestTo yX4_fewestTo, Cond.code yX4_fewestTo cX4_fewestTo 2 (some .int), Cond.methodLink RL 80 yX6_far, Cond.instanceMethod yX6_far, Cond.selects RX6 yX6_far yX6_far, Cond.code yX6_far cX6_far 5 (some .int), Cond.methodLink RL 81 yX5_alike, Cond.instanceMethod yX5_alike, Cond.selects RX5 yX5_alike yX5_alike, Cond.code yX5_alike cX5_alike 10 (some .int), Cond.methodLink RX5 177 yX5_compareFractions]
def wsL_law_r30 : List Cond := [Cond.static yX5_compareFractions, Cond.code yX5_compareFractions cX5_compareFractions 8 (some .int), Cond.methodLink RX5 198 yJ13_compare_74951, Cond.static yJ13_compare_74951, Cond.initialized RJ13, Cond.code yJ13_compare_74951 cJ13_compare_74951 4 (some .int), Cond.methodLink RL 84 yX6_alike, Cond.instanceMethod yX6_alike, Cond.selects RX6 yX6_alike yX6_alike, Cond.code yX6_alike cX6_alike 5 (some .int), Cond.methodLink RL 85 yX5_best, Cond.instanceMethod yX5_best, Cond.selects RX5 yX5_best yX5_best, Cond.code yX5_best cX5_best 12 (some .int), Cond.constantLong RX5 181 (-1), Cond.methodLink RX5 183 yX5_openOnly, Cond.instanceMethod yX5_openOnly, Cond.selects RX5 yX5_openOnly yX5_openOnly, Cond.code yX5_openOnly cX5_openOnly 3 none, Cond.methodLink RX5 187 yJ6_bitCount_0f7a4, Cond.static yJ6_bitCount_0f7a4, Cond.initialized RJ6, Cond.code yJ6_bitCount_0f7a4 cJ6_bitCount_0f7a4 1 (some .int), Cond.constant RJ6 265 (1431655765)]
def wsL_law_r31 : List Cond := [Cond.constant RJ6 266 (858993459), Cond.constant RJ6 267 (252645135), Cond.methodLink RL 88 yX6_best, Cond.instanceMethod yX6_best, Cond.selects RX6 yX6_best yX6_best, Cond.code yX6_best cX6_best 13 (some .int), Cond.constantLong RX6 190 (-1), Cond.methodLink RX6 192 yX6_ones, Cond.static yX6_ones, Cond.code yX6_ones cX6_ones 3 (some .int), Cond.methodLink RL 89 yX5_found, Cond.instanceMethod yX5_found, Cond.selects RX5 yX5_found yX5_found, Cond.code yX5_found cX5_found 9 (some .int), Cond.methodLink RL 93 yX6_found, Cond.instanceMethod yX6_found, Cond.selects RX6 yX6_found yX6_found, Cond.code yX6_found cX6_found 10 (some .int), Cond.methodLink RL 94 yX5_count, Cond.instanceMethod yX5_count, Cond.selects RX5 yX5_count yX5_count, Cond.code yX5_count cX5_count 2 (some .int), Cond.methodLink RX5 192 yX2_ports, Cond.methodLink RL 97 yX6_count]
def wsL_law_r32 : List Cond := [Cond.instanceMethod yX6_count, Cond.selects RX6 yX6_count yX6_count, Cond.code yX6_count cX6_count 5 (some .int)]
def wsL_law : List Cond := (wsL_law_r1 ++ (wsL_law_r2 ++ (wsL_law_r3 ++ (wsL_law_r4 ++ (wsL_law_r5 ++ (wsL_law_r6 ++ (wsL_law_r7 ++ (wsL_law_r8 ++ (wsL_law_r9 ++ (wsL_law_r10 ++ (wsL_law_r11 ++ (wsL_law_r12 ++ (wsL_law_r13 ++ (wsL_law_r14 ++ (wsL_law_r15 ++ (wsL_law_r16 ++ (wsL_law_r17 ++ (wsL_law_r18 ++ (wsL_law_r19 ++ (wsL_law_r20 ++ (wsL_law_r21 ++ (wsL_law_r22 ++ (wsL_law_r23 ++ (wsL_law_r24 ++ (wsL_law_r25 ++ (wsL_law_r26 ++ (wsL_law_r27 ++ (wsL_law_r28 ++ (wsL_law_r29 ++ (wsL_law_r30 ++ (wsL_law_r31 ++ wsL_law_r32))))))))))))))))))))))))))))))) ++ wsX50 ++ wsX60 ++ wsX30 ++ wsX20 ++ wsX10 ++ wsX40 ++ wsX00 ++ ([] : List Cond)
theorem inJx145de : ∀ w ∈ wsJx145de0, w ∈ lw_tbl := by decide +kernel
theorem inJx9f9b0 : ∀ w ∈ wsJx9f9b00, w ∈ lw_tbl := by decide +kernel
theorem inJ11 : ∀ w ∈ wsJ110, w ∈ lw_tbl := by decide +kernel
theorem inJxb160c : ∀ w ∈ wsJxb160c0, w ∈ lw_tbl := by decide +kernel
theorem inJxf58ca : ∀ w ∈ wsJxf58ca0, w ∈ lw_tbl := by decide +kernel
theorem inJ6 : ∀ w ∈ wsJ60, w ∈ lw_tbl := by decide +kernel
theorem inJ13 : ∀ w ∈ wsJ130, w ∈ lw_tbl := by decide +kernel
theorem inJ9 : ∀ w ∈ wsJ90, w ∈ lw_tbl := by decide +kernel
theorem inJxd2413 : ∀ w ∈ wsJxd24130, w ∈ lw_tbl := by decide +kernel
theorem inJ0 : ∀ w ∈ wsJ00, w ∈ lw_tbl := by decide +kernel
theorem inJ1 : ∀ w ∈ wsJ10, w ∈ lw_tbl := by decide +kernel
theorem inJ2 : ∀ w ∈ wsJ20, w ∈ lw_tbl := by decide +kernel
theorem inJ10 : ∀ w ∈ wsJ100, w ∈ lw_tbl := by decide +kernel
theorem inJxfd54e : ∀ w ∈ wsJxfd54e0, w ∈ lw_tbl := by decide +kernel
theorem inJx3cf43 : ∀ w ∈ wsJx3cf430, w ∈ lw_tbl := by decide +kernel
theorem inJ7 : ∀ w ∈ wsJ70, w ∈ lw_tbl := by decide +kernel
theorem inJ3 : ∀ w ∈ wsJ30, w ∈ lw_tbl := by decide +kernel
theorem dX0_init_0 : decode cX0_init 0 = .ok (.aload_n 0, 1) := by decide +kernel
theorem dX0_init_1 : decode cX0_init 1 = .ok (.invokespecial 5, 3) := by decide +kernel
theorem dX0_init_4 : decode cX0_init 4 = .ok (.aload_n 0, 1) := by decide +kernel
theorem dX0_init_5 : decode cX0_init 5 = .ok (.bipush 10, 2) := by decide +kernel
theorem dX0_init_7 : decode cX0_init 7 = .ok (.newarray .int, 2) := by decide +kernel
theorem dX0_init_9 : decode cX0_init 9 = .ok (.putfield 11, 3) := by decide +kernel
theorem dX0_init_12 : decode cX0_init 12 = .ok (.aload_n 0, 1) := by decide +kernel
theorem dX0_init_13 : decode cX0_init 13 = .ok (.bipush 60, 2) := by decide +kernel
theorem dX0_init_15 : decode cX0_init 15 = .ok (.newarray .int, 2) := by decide +kernel
theorem dX0_init_17 : decode cX0_init 17 = .ok (.putfield 15, 3) := by decide +kernel
theorem dX0_init_20 : decode cX0_init 20 = .ok (.aload_n 0, 1) := by decide +kernel
theorem dX0_init_21 : decode cX0_init 21 = .ok (.bipush 20, 2) := by decide +kernel
theorem dX0_init_23 : decode cX0_init 23 = .ok (.newarray .int, 2) := by decide +kernel
theorem dX0_init_25 : decode cX0_init 25 = .ok (.putfield 18, 3) := by decide +kernel
theorem dX0_init_28 : decode cX0_init 28 = .ok (.aload_n 0, 1) := by decide +kernel
theorem dX0_init_29 : decode cX0_init 29 = .ok (.bipush 10, 2) := by decide +kernel
theorem dX0_init_31 : decode cX0_init 31 = .ok (.bipush 11, 2) := by decide +kernel
theorem dX0_init_33 : decode cX0_init 33 = .ok (.multianewarray 21 2, 4) := by decide +kernel
theorem dX0_init_37 : decode cX0_init 37 = .ok (.putfield 23, 3) := by decide +kernel
theorem dX0_init_40 : decode cX0_init 40 = .ok (.aload_n 0, 1) := by decide +kernel
theorem dX0_init_41 : decode cX0_init 41 = .ok (.bipush 60, 2) := by decide +kernel
theorem dX0_init_43 : decode cX0_init 43 = .ok (.newarray .long, 2) := by decide +kernel
theorem dX0_init_45 : decode cX0_init 45 = .ok (.putfield 26, 3) := by decide +kernel
theorem dX0_init_48 : decode cX0_init 48 = .ok (.aload_n 0, 1) := by decide +kernel
theorem dX0_init_49 : decode cX0_init 49 = .ok (.iconst 0, 1) := by decide +kernel
theorem dX0_init_50 : decode cX0_init 50 = .ok (.putfield 30, 3) := by decide +kernel
theorem dX0_init_53 : decode cX0_init 53 = .ok (.aload_n 0, 1) := by decide +kernel
theorem dX0_init_54 : decode cX0_init 54 = .ok (.lconst 1, 1) := by decide +kernel
theorem dX0_init_55 : decode cX0_init 55 = .ok (.putfield 34, 3) := by decide +kernel
theorem dX0_init_58 : decode cX0_init 58 = .ok (.return_, 1) := by decide +kernel
theorem dX0_outAt_0 : decode cX0_outAt 0 = .ok (.iload_n 1, 1) := by decide +kernel
theorem dX0_outAt_1 : decode cX0_outAt 1 = .ok (.ifCond .lt 21, 3) := by decide +kernel
theorem dX0_outAt_4 : decode cX0_outAt 4 = .ok (.iload_n 1, 1) := by decide +kernel
theorem dX0_outAt_5 : decode cX0_outAt 5 = .ok (.bipush 18, 2) := by decide +kernel
theorem dX0_outAt_7 : decode cX0_outAt 7 = .ok (.if_icmp .ge 15, 3) := by decide +kernel
theorem dX0_outAt_10 : decode cX0_outAt 10 = .ok (.aload_n 0, 1) := by decide +kernel
theorem dX0_outAt_11 : decode cX0_outAt 11 = .ok (.getfield 26, 3) := by decide +kernel
theorem dX0_outAt_14 : decode cX0_outAt 14 = .ok (.bipush 40, 2) := by decide +kernel
theorem dX0_outAt_16 : decode cX0_outAt 16 = .ok (.iload_n 1, 1) := by decide +kernel
theorem dX0_outAt_17 : decode cX0_outAt 17 = .ok (.iadd, 1) := by decide +kernel
theorem dX0_outAt_18 : decode cX0_outAt 18 = .ok (.laload, 1) := by decide +kernel
theorem dX0_outAt_19 : decode cX0_outAt 19 = .ok (.goto 4, 3) := by decide +kernel
theorem dX0_outAt_22 : decode cX0_outAt 22 = .ok (.lconst 0, 1) := by decide +kernel
theorem dX0_outAt_23 : decode cX0_outAt 23 = .ok (.lreturn, 1) := by decide +kernel
theorem dX0_swallowed_0 : decode cX0_swallowed 0 = .ok (.aload_n 0, 1) := by decide +kernel
theorem dX0_swallowed_1 : decode cX0_swallowed 1 = .ok (.getfield 26, 3) := by decide +kernel
theorem dX0_swallowed_4 : decode cX0_swallowed 4 = .ok (.bipush 58, 2) := by decide +kernel
theorem dX0_swallowed_6 : decode cX0_swallowed 6 = .ok (.laload, 1) := by decide +kernel
theorem dX0_swallowed_7 : decode cX0_swallowed 7 = .ok (.lreturn, 1) := by decide +kernel
set_option maxRecDepth 20000 in
theorem ggX0_caught_X0_swallowed : GoodIn wsX0_caught wsX0_swallowed := goodIn_r _ [6, 7, 12, 13, 14, 15, 16, 17, 18] (by decide +kernel) (by decide +kernel)
set_option maxRecDepth 20000 in
theorem gX0_caught_X0_swallowed : GoodIn wsX0_caught (wsV RX0 38 RX0 yX0_swallowed wsX0_swallowed) := goodIn_app (goodIn_of _ (by decide +kernel)) ggX0_caught_X0_swallowed
set_option maxRecDepth 20000 in
theorem ggX0_caught_X0_outAt : GoodIn wsX0_caught wsX0_outAt := goodIn_r _ [11, 7, 12, 13, 14, 15, 16, 17, 18] (by decide +kernel) (by decide +kernel)
set_option maxRecDepth 20000 in
theorem gX0_caught_X0_outAt : GoodIn wsX0_caught (wsV RX0 42 RX0 yX0_outAt wsX0_outAt) := goodIn_app (goodIn_of _ (by decide +kernel)) ggX0_caught_X0_outAt
theorem dX0_caught_0 : decode cX0_caught 0 = .ok (.aload_n 0, 1) := by decide +kernel
theorem dX0_caught_1 : decode cX0_caught 1 = .ok (.getfield 34, 3) := by decide +kernel
theorem dX0_caught_4 : decode cX0_caught 4 = .ok (.aload_n 0, 1) := by decide +kernel
theorem dX0_caught_5 : decode cX0_caught 5 = .ok (.invokevirtual 38, 3) := by decide +kernel
theorem dX0_caught_8 : decode cX0_caught 8 = .ok (.lsub, 1) := by decide +kernel
theorem dX0_caught_9 : decode cX0_caught 9 = .ok (.lstore_n 1, 1) := by decide +kernel
theorem dX0_caught_10 : decode cX0_caught 10 = .ok (.iconst 0, 1) := by decide +kernel
theorem dX0_caught_11 : decode cX0_caught 11 = .ok (.istore_n 3, 1) := by decide +kernel
theorem dX0_caught_12 : decode cX0_caught 12 = .ok (.iload_n 3, 1) := by decide +kernel
theorem dX0_caught_13 : decode cX0_caught 13 = .ok (.bipush 18, 2) := by decide +kernel
theorem dX0_caught_15 : decode cX0_caught 15 = .ok (.if_icmp .ge 17, 3) := by decide +kernel
theorem dX0_caught_18 : decode cX0_caught 18 = .ok (.lload_n 1, 1) := by decide +kernel
theorem dX0_caught_19 : decode cX0_caught 19 = .ok (.aload_n 0, 1) := by decide +kernel
theorem dX0_caught_20 : decode cX0_caught 20 = .ok (.iload_n 3, 1) := by decide +kernel
theorem dX0_caught_21 : decode cX0_caught 21 = .ok (.invokevirtual 42, 3) := by decide +kernel
theorem dX0_caught_24 : decode cX0_caught 24 = .ok (.lsub, 1) := by decide +kernel
theorem dX0_caught_25 : decode cX0_caught 25 = .ok (.lstore_n 1, 1) := by decide +kernel
theorem dX0_caught_26 : decode cX0_caught 26 = .ok (.iinc 3 1, 3) := by decide +kernel
theorem dX0_caught_29 : decode cX0_caught 29 = .ok (.goto (-17), 3) := by decide +kernel
theorem dX0_caught_32 : decode cX0_caught 32 = .ok (.lload_n 1, 1) := by decide +kernel
theorem dX0_caught_33 : decode cX0_caught 33 = .ok (.lreturn, 1) := by decide +kernel
set_option maxRecDepth 20000 in
theorem ggX0_shine_X2_portCell : GoodIn wsX0_shine wsX2_portCell := goodIn_r _ [5, 6, 7, 8, 9, 10, 4, 11, 86, 87, 88] (by decide +kernel) (by decide +kernel)
set_option maxRecDepth 20000 in
theorem gX0_shine_X2_portCell : GoodIn wsX0_shine (wsV RX0 46 RX2 yX2_portCell wsX2_portCell) := goodIn_app (goodIn_of _ (by decide +kernel)) ggX0_shine_X2_portCell
set_option maxRecDepth 20000 in
theorem ggX0_shine_X2_portDirection : GoodIn wsX0_shine wsX2_portDirection := goodIn_r _ [11, 6, 7, 86, 87, 88] (by decide +kernel) (by decide +kernel)
set_option maxRecDepth 20000 in
theorem gX0_shine_X2_portDirection : GoodIn wsX0_shine (wsV RX0 52 RX2 yX2_portDirection wsX2_portDirection) := goodIn_app (goodIn_of _ (by decide +kernel)) ggX0_shine_X2_portDirection
set_option maxRecDepth 20000 in
theorem ggX0_shine_X0_endOf : GoodIn wsX0_shine wsX0_endOf := goodIn_r _ [16, 17, 18, 19, 4, 20, 21, 22, 23, 24, 25, 6, 7, 26, 27, 28, 29, 30, 31, 32, 33, 34, 35, 36, 37, 38, 39, 86, 87, 88] (by decide +kernel) (by decide +kernel)
set_option maxRecDepth 20000 in
theorem gX0_shine_X0_endOf : GoodIn wsX0_shine (va_wsS RX0 55 yX0_endOf wsX0_endOf) := goodIn_app (goodIn_of _ (by decide +kernel)) ggX0_shine_X0_endOf
set_option maxRecDepth 20000 in
theorem ggX0_shine_X0_findSplits : GoodIn wsX0_shine wsX0_findSplits := goodIn_r _ [43, 44, 45, 46, 47, 48, 49, 50, 51, 52, 53, 54, 15, 55, 56, 57, 58, 36, 37, 38, 4, 39, 6, 7, 13, 14, 16, 17, 18, 19, 20, 21, 22, 23, 24, 25, 26, 27, 28, 29, 30, 31, 32, 33, 34, 35, 89, 90, 91, 92, 93, 94, 95, 86, 87, 88] (by decide +kernel) (by decide +kernel)
set_option maxRecDepth 20000 in
theorem gX0_shine_X0_findSplits : GoodIn wsX0_shine (wsV RX0 59 RX0 yX0_findSplits wsX0_findSplits) := goodIn_app (goodIn_of _ (by decide +kernel)) ggX0_shine_X0_findSplits
set_option maxRecDepth 20000 in
theorem ggX0_shine_X0_setRows : GoodIn wsX0_shine wsX0_setRows := goodIn_r _ [62, 45, 63, 64, 47, 44, 65, 66, 50, 67, 89, 90, 91, 92, 93, 94, 95] (by decide +kernel) (by decide +kernel)
set_option maxRecDepth 20000 in
theorem gX0_shine_X0_setRows : GoodIn wsX0_shine (wsV RX0 63 RX0 yX0_setRows wsX0_setRows) := goodIn_app (goodIn_of _ (by decide +kernel)) ggX0_shine_X0_setRows
set_option maxRecDepth 20000 in
theorem ggX0_shine_X0_solveRows : GoodIn wsX0_shine wsX0_solveRows := goodIn_r _ [71, 72, 45, 63, 73, 74, 75, 15, 76, 89, 90, 91, 92, 93, 94, 95] (by decide +kernel) (by decide +kernel)
set_option maxRecDepth 20000 in
theorem gX0_shine_X0_solveRows : GoodIn wsX0_shine (wsV RX0 66 RX0 yX0_solveRows wsX0_solveRows) := goodIn_app (goodIn_of _ (by decide +kernel)) ggX0_shine_X0_solveRows
set_option maxRecDepth 20000 in
theorem ggX0_shine_X0_addParts : GoodIn wsX0_shine wsX0_addParts := goodIn_r _ [80, 81, 72, 45, 47, 63, 65, 66, 50, 67, 82, 83, 84, 15, 85, 89, 90, 91, 92, 93, 94, 95] (by decide +kernel) (by decide +kernel)
set_option maxRecDepth 20000 in
theorem gX0_shine_X0_addParts : GoodIn wsX0_shine (wsV RX0 69 RX0 yX0_addParts wsX0_addParts) := goodIn_app (goodIn_of _ (by decide +kernel)) ggX0_shine_X0_addParts
theorem dX0_shine_0 : decode cX0_shine 0 = .ok (.aload_n 1, 1) := by decide +kernel
theorem dX0_shine_1 : decode cX0_shine 1 = .ok (.aload_n 1, 1) := by decide +kernel
theorem dX0_shine_2 : decode cX0_shine 2 = .ok (.iload_n 2, 1) := by decide +kernel
theorem dX0_shine_3 : decode cX0_shine 3 = .ok (.invokevirtual 46, 3) := by decide +kernel
theorem dX0_shine_6 : decode cX0_shine 6 = .ok (.aload_n 1, 1) := by decide +kernel
theorem dX0_shine_7 : decode cX0_shine 7 = .ok (.iload_n 2, 1) := by decide +kernel
theorem dX0_shine_8 : decode cX0_shine 8 = .ok (.invokevirtual 52, 3) := by decide +kernel
theorem dX0_shine_11 : decode cX0_shine 11 = .ok (.invokestatic 55, 3) := by decide +kernel
theorem dX0_shine_14 : decode cX0_shine 14 = .ok (.istore_n 3, 1) := by decide +kernel
theorem dX0_shine_15 : decode cX0_shine 15 = .ok (.aload_n 0, 1) := by decide +kernel
theorem dX0_shine_16 : decode cX0_shine 16 = .ok (.aload_n 1, 1) := by decide +kernel
theorem dX0_shine_17 : decode cX0_shine 17 = .ok (.iload_n 3, 1) := by decide +kernel
theorem dX0_shine_18 : decode cX0_shine 18 = .ok (.invokevirtual 59, 3) := by decide +kernel
theorem dX0_shine_21 : decode cX0_shine 21 = .ok (.aload_n 0, 1) := by decide +kernel
theorem dX0_shine_22 : decode cX0_shine 22 = .ok (.invokevirtual 63, 3) := by decide +kernel
theorem dX0_shine_25 : decode cX0_shine 25 = .ok (.aload_n 0, 1) := by decide +kernel
theorem dX0_shine_26 : decode cX0_shine 26 = .ok (.invokevirtual 66, 3) := by decide +kernel
theorem dX0_shine_29 : decode cX0_shine 29 = .ok (.aload_n 0, 1) := by decide +kernel
theorem dX0_shine_30 : decode cX0_shine 30 = .ok (.iload_n 3, 1) := by decide +kernel
theorem dX0_shine_31 : decode cX0_shine 31 = .ok (.invokevirtual 69, 3) := by decide +kernel
theorem dX0_shine_34 : decode cX0_shine 34 = .ok (.return_, 1) := by decide +kernel
set_option maxRecDepth 20000 in
theorem ggX0_findSplits_J7_fill_53178 : GoodIn wsX0_findSplits wsJ7_fill_53178 := goodIn_r _ [8] (by decide +kernel) (by decide +kernel)
set_option maxRecDepth 20000 in
theorem gX0_findSplits_J7_fill_53178 : GoodIn wsX0_findSplits (va_wsS RX0 73 yJ7_fill_53178 wsJ7_fill_53178) := goodIn_app (goodIn_of _ (by decide +kernel)) ggX0_findSplits_J7_fill_53178
set_option maxRecDepth 20000 in
theorem ggX0_findSplits_X0_noteSplit : GoodIn wsX0_findSplits wsX0_noteSplit := goodIn_r _ [13, 2, 1, 3, 46, 47, 48, 49, 50, 51, 52] (by decide +kernel) (by decide +kernel)
set_option maxRecDepth 20000 in
theorem gX0_findSplits_X0_noteSplit : GoodIn wsX0_findSplits (wsV RX0 79 RX0 yX0_noteSplit wsX0_noteSplit) := goodIn_app (goodIn_of _ (by decide +kernel)) ggX0_findSplits_X0_noteSplit
set_option maxRecDepth 20000 in
theorem ggX0_findSplits_X0_endBeyond : GoodIn wsX0_findSplits wsX0_endBeyond := goodIn_r _ [16, 17, 18, 19, 20, 21, 22, 23, 24, 25, 12, 26, 27, 28, 29, 30, 31, 32, 33, 34, 35, 36, 37, 38, 39, 40, 41, 42, 43, 44, 45, 53, 54, 55] (by decide +kernel) (by decide +kernel)
set_option maxRecDepth 20000 in
theorem gX0_findSplits_X0_endBeyond : GoodIn wsX0_findSplits (va_wsS RX0 82 yX0_endBeyond wsX0_endBeyond) := goodIn_app (goodIn_of _ (by decide +kernel)) ggX0_findSplits_X0_endBeyond
set_option maxRecDepth 20000 in
theorem ggX0_findSplits_X2_kindAt : GoodIn wsX0_findSplits wsX2_kindAt := goodIn_r _ [30, 31, 32, 33, 34, 20, 35, 22, 23, 53, 54, 55] (by decide +kernel) (by decide +kernel)
set_option maxRecDepth 20000 in
theorem gX0_findSplits_X2_kindAt : GoodIn wsX0_findSplits (wsV RX0 85 RX2 yX2_kindAt wsX2_kindAt) := goodIn_app (goodIn_of _ (by decide +kernel)) ggX0_findSplits_X2_kindAt
set_option maxRecDepth 20000 in
theorem ggX0_findSplits_X5_turnedBy : GoodIn wsX0_findSplits wsX5_turnedBy := goodIn_r _ [40] (by decide +kernel) (by decide +kernel)
set_option maxRecDepth 20000 in
theorem gX0_findSplits_X5_turnedBy_n88 : GoodIn wsX0_findSplits (wsX5_turnedBy) := ggX0_findSplits_X5_turnedBy
theorem dX0_findSplits_0 : decode cX0_findSplits 0 = .ok (.aload_n 0, 1) := by decide +kernel
theorem dX0_findSplits_1 : decode cX0_findSplits 1 = .ok (.getfield 15, 3) := by decide +kernel
theorem dX0_findSplits_4 : decode cX0_findSplits 4 = .ok (.bipush (-4), 2) := by decide +kernel
theorem dX0_findSplits_6 : decode cX0_findSplits 6 = .ok (.invokestatic 73, 3) := by decide +kernel
theorem dX0_findSplits_9 : decode cX0_findSplits 9 = .ok (.aload_n 0, 1) := by decide +kernel
theorem dX0_findSplits_10 : decode cX0_findSplits 10 = .ok (.iconst 0, 1) := by decide +kernel
theorem dX0_findSplits_11 : decode cX0_findSplits 11 = .ok (.putfield 30, 3) := by decide +kernel
theorem dX0_findSplits_14 : decode cX0_findSplits 14 = .ok (.aload_n 0, 1) := by decide +kernel
theorem dX0_findSplits_15 : decode cX0_findSplits 15 = .ok (.iload_n 2, 1) := by decide +kernel
theorem dX0_findSplits_16 : decode cX0_findSplits 16 = .ok (.invokevirtual 79, 3) := by decide +kernel
theorem dX0_findSplits_19 : decode cX0_findSplits 19 = .ok (.iconst 0, 1) := by decide +kernel
theorem dX0_findSplits_20 : decode cX0_findSplits 20 = .ok (.istore_n 3, 1) := by decide +kernel
theorem dX0_findSplits_21 : decode cX0_findSplits 21 = .ok (.iload_n 3, 1) := by decide +kernel
theorem dX0_findSplits_22 : decode cX0_findSplits 22 = .ok (.bipush 10, 2) := by decide +kernel
theorem dX0_findSplits_24 : decode cX0_findSplits 24 = .ok (.if_icmp .ge 114, 3) := by decide +kernel
theorem dX0_findSplits_27 : decode cX0_findSplits 27 = .ok (.iload_n 3, 1) := by decide +kernel
theorem dX0_findSplits_28 : decode cX0_findSplits 28 = .ok (.aload_n 0, 1) := by decide +kernel
theorem dX0_findSplits_29 : decode cX0_findSplits 29 = .ok (.getfield 30, 3) := by decide +kernel
theorem dX0_findSplits_32 : decode cX0_findSplits 32 = .ok (.if_icmp .ge 106, 3) := by decide +kernel
theorem dX0_findSplits_35 : decode cX0_findSplits 35 = .ok (.aload_n 0, 1) := by decide +kernel
theorem dX0_findSplits_36 : decode cX0_findSplits 36 = .ok (.getfield 11, 3) := by decide +kernel
theorem dX0_findSplits_39 : decode cX0_findSplits 39 = .ok (.iload_n 3, 1) := by decide +kernel
theorem dX0_findSplits_40 : decode cX0_findSplits 40 = .ok (.iaload, 1) := by decide +kernel
theorem dX0_findSplits_41 : decode cX0_findSplits 41 = .ok (.iconst 2, 1) := by decide +kernel
theorem dX0_findSplits_42 : decode cX0_findSplits 42 = .ok (.idiv, 1) := by decide +kernel
theorem dX0_findSplits_43 : decode cX0_findSplits 43 = .ok (.istore 4, 2) := by decide +kernel
theorem dX0_findSplits_45 : decode cX0_findSplits 45 = .ok (.aload_n 0, 1) := by decide +kernel
theorem dX0_findSplits_46 : decode cX0_findSplits 46 = .ok (.getfield 11, 3) := by decide +kernel
theorem dX0_findSplits_49 : decode cX0_findSplits 49 = .ok (.iload_n 3, 1) := by decide +kernel
theorem dX0_findSplits_50 : decode cX0_findSplits 50 = .ok (.iaload, 1) := by decide +kernel
theorem dX0_findSplits_51 : decode cX0_findSplits 51 = .ok (.iconst 2, 1) := by decide +kernel
theorem dX0_findSplits_52 : decode cX0_findSplits 52 = .ok (.irem, 1) := by decide +kernel
theorem dX0_findSplits_53 : decode cX0_findSplits 53 = .ok (.ifCond .ne 7, 3) := by decide +kernel
theorem dX0_findSplits_56 : decode cX0_findSplits 56 = .ok (.iconst 0, 1) := by decide +kernel
theorem dX0_findSplits_57 : decode cX0_findSplits 57 = .ok (.goto 4, 3) := by decide +kernel
theorem dX0_findSplits_60 : decode cX0_findSplits 60 = .ok (.iconst 2, 1) := by decide +kernel
theorem dX0_findSplits_61 : decode cX0_findSplits 61 = .ok (.istore 5, 2) := by decide +kernel
theorem dX0_findSplits_63 : decode cX0_findSplits 63 = .ok (.aload_n 0, 1) := by decide +kernel
theorem dX0_findSplits_64 : decode cX0_findSplits 64 = .ok (.getfield 18, 3) := by decide +kernel
theorem dX0_findSplits_67 : decode cX0_findSplits 67 = .ok (.iconst 2, 1) := by decide +kernel
theorem dX0_findSplits_68 : decode cX0_findSplits 68 = .ok (.iload_n 3, 1) := by decide +kernel
theorem dX0_findSplits_69 : decode cX0_findSplits 69 = .ok (.imul, 1) := by decide +kernel
theorem dX0_findSplits_70 : decode cX0_findSplits 70 = .ok (.aload_n 1, 1) := by decide +kernel
theorem dX0_findSplits_71 : decode cX0_findSplits 71 = .ok (.iload 4, 2) := by decide +kernel
theorem dX0_findSplits_73 : decode cX0_findSplits 73 = .ok (.iload 5, 2) := by decide +kernel
theorem dX0_findSplits_75 : decode cX0_findSplits 75 = .ok (.invokestatic 82, 3) := by decide +kernel
theorem dX0_findSplits_78 : decode cX0_findSplits 78 = .ok (.iastore, 1) := by decide +kernel
theorem dX0_findSplits_79 : decode cX0_findSplits 79 = .ok (.aload_n 0, 1) := by decide +kernel
theorem dX0_findSplits_80 : decode cX0_findSplits 80 = .ok (.getfield 18, 3) := by decide +kernel
theorem dX0_findSplits_83 : decode cX0_findSplits 83 = .ok (.iconst 2, 1) := by decide +kernel
theorem dX0_findSplits_84 : decode cX0_findSplits 84 = .ok (.iload_n 3, 1) := by decide +kernel
theorem dX0_findSplits_85 : decode cX0_findSplits 85 = .ok (.imul, 1) := by decide +kernel
theorem dX0_findSplits_86 : decode cX0_findSplits 86 = .ok (.iconst 1, 1) := by decide +kernel
theorem dX0_findSplits_87 : decode cX0_findSplits 87 = .ok (.iadd, 1) := by decide +kernel
theorem dX0_findSplits_88 : decode cX0_findSplits 88 = .ok (.aload_n 1, 1) := by decide +kernel
theorem dX0_findSplits_89 : decode cX0_findSplits 89 = .ok (.iload 4, 2) := by decide +kernel
theorem dX0_findSplits_91 : decode cX0_findSplits 91 = .ok (.aload_n 1, 1) := by decide +kernel
theorem dX0_findSplits_92 : decode cX0_findSplits 92 = .ok (.iload 4, 2) := by decide +kernel
theorem dX0_findSplits_94 : decode cX0_findSplits 94 = .ok (.invokevirtual 85, 3) := by decide +kernel
theorem dX0_findSplits_97 : decode cX0_findSplits 97 = .ok (.iload 5, 2) := by decide +kernel
theorem dX0_findSplits_99 : decode cX0_findSplits 99 = .ok (.invokestatic 88, 3) := by decide +kernel
theorem dX0_findSplits_102 : decode cX0_findSplits 102 = .ok (.invokestatic 82, 3) := by decide +kernel
theorem dX0_findSplits_105 : decode cX0_findSplits 105 = .ok (.iastore, 1) := by decide +kernel
theorem dX0_findSplits_106 : decode cX0_findSplits 106 = .ok (.aload_n 0, 1) := by decide +kernel
theorem dX0_findSplits_107 : decode cX0_findSplits 107 = .ok (.aload_n 0, 1) := by decide +kernel
theorem dX0_findSplits_108 : decode cX0_findSplits 108 = .ok (.getfield 18, 3) := by decide +kernel
theorem dX0_findSplits_111 : decode cX0_findSplits 111 = .ok (.iconst 2, 1) := by decide +kernel
theorem dX0_findSplits_112 : decode cX0_findSplits 112 = .ok (.iload_n 3, 1) := by decide +kernel
theorem dX0_findSplits_113 : decode cX0_findSplits 113 = .ok (.imul, 1) := by decide +kernel
theorem dX0_findSplits_114 : decode cX0_findSplits 114 = .ok (.iaload, 1) := by decide +kernel
theorem dX0_findSplits_115 : decode cX0_findSplits 115 = .ok (.invokevirtual 79, 3) := by decide +kernel
theorem dX0_findSplits_118 : decode cX0_findSplits 118 = .ok (.aload_n 0, 1) := by decide +kernel
theorem dX0_findSplits_119 : decode cX0_findSplits 119 = .ok (.aload_n 0, 1) := by decide +kernel
theorem dX0_findSplits_120 : decode cX0_findSplits 120 = .ok (.getfield 18, 3) := by decide +kernel
theorem dX0_findSplits_123 : decode cX0_findSplits 123 = .ok (.iconst 2, 1) := by decide +kernel
theorem dX0_findSplits_124 : decode cX0_findSplits 124 = .ok (.iload_n 3, 1) := by decide +kernel
theorem dX0_findSplits_125 : decode cX0_findSplits 125 = .ok (.imul, 1) := by decide +kernel
theorem dX0_findSplits_126 : decode cX0_findSplits 126 = .ok (.iconst 1, 1) := by decide +kernel
theorem dX0_findSplits_127 : decode cX0_findSplits 127 = .ok (.iadd, 1) := by decide +kernel
theorem dX0_findSplits_128 : decode cX0_findSplits 128 = .ok (.iaload, 1) := by decide +kernel
theorem dX0_findSplits_129 : decode cX0_findSplits 129 = .ok (.invokevirtual 79, 3) := by decide +kernel
theorem dX0_findSplits_132 : decode cX0_findSplits 132 = .ok (.iinc 3 1, 3) := by decide +kernel
theorem dX0_findSplits_135 : decode cX0_findSplits 135 = .ok (.goto (-114), 3) := by decide +kernel
theorem dX0_findSplits_138 : decode cX0_findSplits 138 = .ok (.return_, 1) := by decide +kernel
theorem dX0_noteSplit_0 : decode cX0_noteSplit 0 = .ok (.iload_n 1, 1) := by decide +kernel
theorem dX0_noteSplit_1 : decode cX0_noteSplit 1 = .ok (.ifCond .lt 29, 3) := by decide +kernel
theorem dX0_noteSplit_4 : decode cX0_noteSplit 4 = .ok (.iload_n 1, 1) := by decide +kernel
theorem dX0_noteSplit_5 : decode cX0_noteSplit 5 = .ok (.bipush 40, 2) := by decide +kernel
theorem dX0_noteSplit_7 : decode cX0_noteSplit 7 = .ok (.if_icmp .ge 23, 3) := by decide +kernel
theorem dX0_noteSplit_10 : decode cX0_noteSplit 10 = .ok (.aload_n 0, 1) := by decide +kernel
theorem dX0_noteSplit_11 : decode cX0_noteSplit 11 = .ok (.getfield 30, 3) := by decide +kernel
theorem dX0_noteSplit_14 : decode cX0_noteSplit 14 = .ok (.bipush 10, 2) := by decide +kernel
theorem dX0_noteSplit_16 : decode cX0_noteSplit 16 = .ok (.if_icmp .ge 14, 3) := by decide +kernel
theorem dX0_noteSplit_19 : decode cX0_noteSplit 19 = .ok (.aload_n 0, 1) := by decide +kernel
theorem dX0_noteSplit_20 : decode cX0_noteSplit 20 = .ok (.getfield 15, 3) := by decide +kernel
theorem dX0_noteSplit_23 : decode cX0_noteSplit 23 = .ok (.iload_n 1, 1) := by decide +kernel
theorem dX0_noteSplit_24 : decode cX0_noteSplit 24 = .ok (.iaload, 1) := by decide +kernel
theorem dX0_noteSplit_25 : decode cX0_noteSplit 25 = .ok (.bipush (-4), 2) := by decide +kernel
theorem dX0_noteSplit_27 : decode cX0_noteSplit 27 = .ok (.if_icmp .eq 4, 3) := by decide +kernel
theorem dX0_noteSplit_30 : decode cX0_noteSplit 30 = .ok (.return_, 1) := by decide +kernel
theorem dX0_noteSplit_31 : decode cX0_noteSplit 31 = .ok (.aload_n 0, 1) := by decide +kernel
theorem dX0_noteSplit_32 : decode cX0_noteSplit 32 = .ok (.getfield 15, 3) := by decide +kernel
theorem dX0_noteSplit_35 : decode cX0_noteSplit 35 = .ok (.iload_n 1, 1) := by decide +kernel
theorem dX0_noteSplit_36 : decode cX0_noteSplit 36 = .ok (.aload_n 0, 1) := by decide +kernel
theorem dX0_noteSplit_37 : decode cX0_noteSplit 37 = .ok (.getfield 30, 3) := by decide +kernel
theorem dX0_noteSplit_40 : decode cX0_noteSplit 40 = .ok (.iastore, 1) := by decide +kernel
theorem dX0_noteSplit_41 : decode cX0_noteSplit 41 = .ok (.aload_n 0, 1) := by decide +kernel
theorem dX0_noteSplit_42 : decode cX0_noteSplit 42 = .ok (.getfield 11, 3) := by decide +kernel
theorem dX0_noteSplit_45 : decode cX0_noteSplit 45 = .ok (.aload_n 0, 1) := by decide +kernel
theorem dX0_noteSplit_46 : decode cX0_noteSplit 46 = .ok (.getfield 30, 3) := by decide +kernel
theorem dX0_noteSplit_49 : decode cX0_noteSplit 49 = .ok (.iload_n 1, 1) := by decide +kernel
theorem dX0_noteSplit_50 : decode cX0_noteSplit 50 = .ok (.iastore, 1) := by decide +kernel
theorem dX0_noteSplit_51 : decode cX0_noteSplit 51 = .ok (.aload_n 0, 1) := by decide +kernel
theorem dX0_noteSplit_52 : decode cX0_noteSplit 52 = .ok (.dup, 1) := by decide +kernel
theorem dX0_noteSplit_53 : decode cX0_noteSplit 53 = .ok (.getfield 30, 3) := by decide +kernel
theorem dX0_noteSplit_56 : decode cX0_noteSplit 56 = .ok (.iconst 1, 1) := by decide +kernel
theorem dX0_noteSplit_57 : decode cX0_noteSplit 57 = .ok (.iadd, 1) := by decide +kernel
theorem dX0_noteSplit_58 : decode cX0_noteSplit 58 = .ok (.putfield 30, 3) := by decide +kernel
theorem dX0_noteSplit_61 : decode cX0_noteSplit 61 = .ok (.return_, 1) := by decide +kernel
set_option maxRecDepth 20000 in
theorem ggX0_endBeyond_X2_beyond : GoodIn wsX0_endBeyond wsX2_beyond := goodIn_r _ [5, 6, 7, 31, 32, 33] (by decide +kernel) (by decide +kernel)
set_option maxRecDepth 20000 in
theorem gX0_endBeyond_X2_beyond : GoodIn wsX0_endBeyond (wsV RX0 92 RX2 yX2_beyond wsX2_beyond) := goodIn_app (goodIn_of _ (by decide +kernel)) ggX0_endBeyond_X2_beyond
set_option maxRecDepth 20000 in
theorem ggX0_endBeyond_X0_endOf : GoodIn wsX0_endBeyond wsX0_endOf := goodIn_r _ [11, 12, 13, 14, 4, 15, 16, 17, 18, 19, 20, 6, 7, 21, 22, 23, 24, 25, 26, 27, 28, 29, 30, 1, 2, 3, 5, 31, 32, 33] (by decide +kernel) (by decide +kernel)
set_option maxRecDepth 20000 in
theorem gX0_endBeyond_X0_endOf : GoodIn wsX0_endBeyond (va_wsS RX0 55 yX0_endOf wsX0_endOf) := goodIn_app (goodIn_of _ (by decide +kernel)) ggX0_endBeyond_X0_endOf
theorem dX0_endBeyond_0 : decode cX0_endBeyond 0 = .ok (.aload_n 0, 1) := by decide +kernel
theorem dX0_endBeyond_1 : decode cX0_endBeyond 1 = .ok (.iload_n 1, 1) := by decide +kernel
theorem dX0_endBeyond_2 : decode cX0_endBeyond 2 = .ok (.iload_n 2, 1) := by decide +kernel
theorem dX0_endBeyond_3 : decode cX0_endBeyond 3 = .ok (.invokevirtual 92, 3) := by decide +kernel
theorem dX0_endBeyond_6 : decode cX0_endBeyond 6 = .ok (.istore_n 3, 1) := by decide +kernel
theorem dX0_endBeyond_7 : decode cX0_endBeyond 7 = .ok (.iload_n 3, 1) := by decide +kernel
theorem dX0_endBeyond_8 : decode cX0_endBeyond 8 = .ok (.ifCond .lt 12, 3) := by decide +kernel
theorem dX0_endBeyond_11 : decode cX0_endBeyond 11 = .ok (.aload_n 0, 1) := by decide +kernel
theorem dX0_endBeyond_12 : decode cX0_endBeyond 12 = .ok (.iload_n 3, 1) := by decide +kernel
theorem dX0_endBeyond_13 : decode cX0_endBeyond 13 = .ok (.iload_n 2, 1) := by decide +kernel
theorem dX0_endBeyond_14 : decode cX0_endBeyond 14 = .ok (.invokestatic 55, 3) := by decide +kernel
theorem dX0_endBeyond_17 : decode cX0_endBeyond 17 = .ok (.goto 9, 3) := by decide +kernel
theorem dX0_endBeyond_20 : decode cX0_endBeyond 20 = .ok (.bipush 40, 2) := by decide +kernel
theorem dX0_endBeyond_22 : decode cX0_endBeyond 22 = .ok (.iload_n 3, 1) := by decide +kernel
theorem dX0_endBeyond_23 : decode cX0_endBeyond 23 = .ok (.iconst (-1), 1) := by decide +kernel
theorem dX0_endBeyond_24 : decode cX0_endBeyond 24 = .ok (.ixor, 1) := by decide +kernel
theorem dX0_endBeyond_25 : decode cX0_endBeyond 25 = .ok (.iadd, 1) := by decide +kernel
theorem dX0_endBeyond_26 : decode cX0_endBeyond 26 = .ok (.ireturn, 1) := by decide +kernel
set_option maxRecDepth 20000 in
theorem ggX0_endOf_X2_kindAt : GoodIn wsX0_endOf wsX2_kindAt := goodIn_r _ [5, 6, 7, 8, 9, 4, 10, 11, 12, 27, 28, 29] (by decide +kernel) (by decide +kernel)
set_option maxRecDepth 20000 in
theorem gX0_endOf_X2_kindAt : GoodIn wsX0_endOf (wsV RX0 85 RX2 yX2_kindAt wsX2_kindAt) := goodIn_app (goodIn_of _ (by decide +kernel)) ggX0_endOf_X2_kindAt
set_option maxRecDepth 20000 in
theorem ggX0_endOf_X5_isHalf : GoodIn wsX0_endOf wsX5_isHalf := goodIn_r _ [15] (by decide +kernel) (by decide +kernel)
set_option maxRecDepth 20000 in
theorem gX0_endOf_X5_isHalf_n95 : GoodIn wsX0_endOf (wsX5_isHalf) := ggX0_endOf_X5_isHalf
set_option maxRecDepth 20000 in
theorem ggX0_endOf_X5_turnedBy : GoodIn wsX0_endOf wsX5_turnedBy := goodIn_r _ [17] (by decide +kernel) (by decide +kernel)
set_option maxRecDepth 20000 in
theorem gX0_endOf_X5_turnedBy_n88 : GoodIn wsX0_endOf (wsX5_turnedBy) := ggX0_endOf_X5_turnedBy
set_option maxRecDepth 20000 in
theorem ggX0_endOf_X5_letsOn : GoodIn wsX0_endOf wsX5_letsOn := goodIn_r _ [19, 20, 13, 14, 15] (by decide +kernel) (by decide +kernel)
set_option maxRecDepth 20000 in
theorem gX0_endOf_X5_letsOn_n99 : GoodIn wsX0_endOf (wsX5_letsOn) := ggX0_endOf_X5_letsOn
set_option maxRecDepth 20000 in
theorem ggX0_endOf_X5_turnsBeam : GoodIn wsX0_endOf wsX5_turnsBeam := goodIn_r _ [22, 20, 13, 14, 15] (by decide +kernel) (by decide +kernel)
set_option maxRecDepth 20000 in
theorem gX0_endOf_X5_turnsBeam_n102 : GoodIn wsX0_endOf (wsX5_turnsBeam) := ggX0_endOf_X5_turnsBeam
set_option maxRecDepth 20000 in
theorem ggX0_endOf_X2_beyond : GoodIn wsX0_endOf wsX2_beyond := goodIn_r _ [26, 11, 12, 27, 28, 29] (by decide +kernel) (by decide +kernel)
set_option maxRecDepth 20000 in
theorem gX0_endOf_X2_beyond : GoodIn wsX0_endOf (wsV RX0 92 RX2 yX2_beyond wsX2_beyond) := goodIn_app (goodIn_of _ (by decide +kernel)) ggX0_endOf_X2_beyond
theorem dX0_endOf_0 : decode cX0_endOf 0 = .ok (.iload_n 1, 1) := by decide +kernel
theorem dX0_endOf_1 : decode cX0_endOf 1 = .ok (.istore_n 3, 1) := by decide +kernel
theorem dX0_endOf_2 : decode cX0_endOf 2 = .ok (.iload_n 2, 1) := by decide +kernel
theorem dX0_endOf_3 : decode cX0_endOf 3 = .ok (.istore 4, 2) := by decide +kernel
theorem dX0_endOf_5 : decode cX0_endOf 5 = .ok (.iconst 0, 1) := by decide +kernel
theorem dX0_endOf_6 : decode cX0_endOf 6 = .ok (.istore 5, 2) := by decide +kernel
theorem dX0_endOf_8 : decode cX0_endOf 8 = .ok (.iload 5, 2) := by decide +kernel
theorem dX0_endOf_10 : decode cX0_endOf 10 = .ok (.bipush 80, 2) := by decide +kernel
theorem dX0_endOf_12 : decode cX0_endOf 12 = .ok (.if_icmp .ge 129, 3) := by decide +kernel
theorem dX0_endOf_15 : decode cX0_endOf 15 = .ok (.aload_n 0, 1) := by decide +kernel
theorem dX0_endOf_16 : decode cX0_endOf 16 = .ok (.iload_n 3, 1) := by decide +kernel
theorem dX0_endOf_17 : decode cX0_endOf 17 = .ok (.invokevirtual 85, 3) := by decide +kernel
theorem dX0_endOf_20 : decode cX0_endOf 20 = .ok (.istore 6, 2) := by decide +kernel
theorem dX0_endOf_22 : decode cX0_endOf 22 = .ok (.iload 6, 2) := by decide +kernel
theorem dX0_endOf_24 : decode cX0_endOf 24 = .ok (.invokestatic 95, 3) := by decide +kernel
theorem dX0_endOf_27 : decode cX0_endOf 27 = .ok (.ifCond .eq 42, 3) := by decide +kernel
theorem dX0_endOf_30 : decode cX0_endOf 30 = .ok (.iload 4, 2) := by decide +kernel
theorem dX0_endOf_32 : decode cX0_endOf 32 = .ok (.ifCond .eq 13, 3) := by decide +kernel
theorem dX0_endOf_35 : decode cX0_endOf 35 = .ok (.iload 6, 2) := by decide +kernel
theorem dX0_endOf_37 : decode cX0_endOf 37 = .ok (.iload 4, 2) := by decide +kernel
theorem dX0_endOf_39 : decode cX0_endOf 39 = .ok (.invokestatic 88, 3) := by decide +kernel
theorem dX0_endOf_42 : decode cX0_endOf 42 = .ok (.ifCond .ne 7, 3) := by decide +kernel
theorem dX0_endOf_45 : decode cX0_endOf 45 = .ok (.iconst 1, 1) := by decide +kernel
theorem dX0_endOf_46 : decode cX0_endOf 46 = .ok (.goto 4, 3) := by decide +kernel
theorem dX0_endOf_49 : decode cX0_endOf 49 = .ok (.iconst 0, 1) := by decide +kernel
theorem dX0_endOf_50 : decode cX0_endOf 50 = .ok (.istore 7, 2) := by decide +kernel
theorem dX0_endOf_52 : decode cX0_endOf 52 = .ok (.iload 7, 2) := by decide +kernel
theorem dX0_endOf_54 : decode cX0_endOf 54 = .ok (.ifCond .eq 9, 3) := by decide +kernel
theorem dX0_endOf_57 : decode cX0_endOf 57 = .ok (.iconst 2, 1) := by decide +kernel
theorem dX0_endOf_58 : decode cX0_endOf 58 = .ok (.iload_n 3, 1) := by decide +kernel
theorem dX0_endOf_59 : decode cX0_endOf 59 = .ok (.imul, 1) := by decide +kernel
theorem dX0_endOf_60 : decode cX0_endOf 60 = .ok (.goto 8, 3) := by decide +kernel
theorem dX0_endOf_63 : decode cX0_endOf 63 = .ok (.iconst 2, 1) := by decide +kernel
theorem dX0_endOf_64 : decode cX0_endOf 64 = .ok (.iload_n 3, 1) := by decide +kernel
theorem dX0_endOf_65 : decode cX0_endOf 65 = .ok (.imul, 1) := by decide +kernel
theorem dX0_endOf_66 : decode cX0_endOf 66 = .ok (.iconst 1, 1) := by decide +kernel
theorem dX0_endOf_67 : decode cX0_endOf 67 = .ok (.iadd, 1) := by decide +kernel
theorem dX0_endOf_68 : decode cX0_endOf 68 = .ok (.ireturn, 1) := by decide +kernel
theorem dX0_endOf_69 : decode cX0_endOf 69 = .ok (.iload 6, 2) := by decide +kernel
theorem dX0_endOf_71 : decode cX0_endOf 71 = .ok (.invokestatic 99, 3) := by decide +kernel
theorem dX0_endOf_74 : decode cX0_endOf 74 = .ok (.ifCond .ne 14, 3) := by decide +kernel
theorem dX0_endOf_77 : decode cX0_endOf 77 = .ok (.iload 6, 2) := by decide +kernel
theorem dX0_endOf_79 : decode cX0_endOf 79 = .ok (.invokestatic 102, 3) := by decide +kernel
theorem dX0_endOf_82 : decode cX0_endOf 82 = .ok (.ifCond .ne 6, 3) := by decide +kernel
theorem dX0_endOf_85 : decode cX0_endOf 85 = .ok (.bipush 58, 2) := by decide +kernel
theorem dX0_endOf_87 : decode cX0_endOf 87 = .ok (.ireturn, 1) := by decide +kernel
theorem dX0_endOf_88 : decode cX0_endOf 88 = .ok (.iload 6, 2) := by decide +kernel
theorem dX0_endOf_90 : decode cX0_endOf 90 = .ok (.invokestatic 102, 3) := by decide +kernel
theorem dX0_endOf_93 : decode cX0_endOf 93 = .ok (.ifCond .eq 13, 3) := by decide +kernel
theorem dX0_endOf_96 : decode cX0_endOf 96 = .ok (.iload 6, 2) := by decide +kernel
theorem dX0_endOf_98 : decode cX0_endOf 98 = .ok (.iload 4, 2) := by decide +kernel
theorem dX0_endOf_100 : decode cX0_endOf 100 = .ok (.invokestatic 88, 3) := by decide +kernel
theorem dX0_endOf_103 : decode cX0_endOf 103 = .ok (.goto 5, 3) := by decide +kernel
theorem dX0_endOf_106 : decode cX0_endOf 106 = .ok (.iload 4, 2) := by decide +kernel
theorem dX0_endOf_108 : decode cX0_endOf 108 = .ok (.istore 4, 2) := by decide +kernel
theorem dX0_endOf_110 : decode cX0_endOf 110 = .ok (.aload_n 0, 1) := by decide +kernel
theorem dX0_endOf_111 : decode cX0_endOf 111 = .ok (.iload_n 3, 1) := by decide +kernel
theorem dX0_endOf_112 : decode cX0_endOf 112 = .ok (.iload 4, 2) := by decide +kernel
theorem dX0_endOf_114 : decode cX0_endOf 114 = .ok (.invokevirtual 92, 3) := by decide +kernel
theorem dX0_endOf_117 : decode cX0_endOf 117 = .ok (.istore 7, 2) := by decide +kernel
theorem dX0_endOf_119 : decode cX0_endOf 119 = .ok (.iload 7, 2) := by decide +kernel
theorem dX0_endOf_121 : decode cX0_endOf 121 = .ok (.ifCond .ge 11, 3) := by decide +kernel
theorem dX0_endOf_124 : decode cX0_endOf 124 = .ok (.bipush 40, 2) := by decide +kernel
theorem dX0_endOf_126 : decode cX0_endOf 126 = .ok (.iload 7, 2) := by decide +kernel
theorem dX0_endOf_128 : decode cX0_endOf 128 = .ok (.iconst (-1), 1) := by decide +kernel
theorem dX0_endOf_129 : decode cX0_endOf 129 = .ok (.ixor, 1) := by decide +kernel
theorem dX0_endOf_130 : decode cX0_endOf 130 = .ok (.iadd, 1) := by decide +kernel
theorem dX0_endOf_131 : decode cX0_endOf 131 = .ok (.ireturn, 1) := by decide +kernel
theorem dX0_endOf_132 : decode cX0_endOf 132 = .ok (.iload 7, 2) := by decide +kernel
theorem dX0_endOf_134 : decode cX0_endOf 134 = .ok (.istore_n 3, 1) := by decide +kernel
theorem dX0_endOf_135 : decode cX0_endOf 135 = .ok (.iinc 5 1, 3) := by decide +kernel
theorem dX0_endOf_138 : decode cX0_endOf 138 = .ok (.goto (-130), 3) := by decide +kernel
theorem dX0_endOf_141 : decode cX0_endOf 141 = .ok (.bipush 59, 2) := by decide +kernel
theorem dX0_endOf_143 : decode cX0_endOf 143 = .ok (.ireturn, 1) := by decide +kernel
set_option maxRecDepth 20000 in
theorem ggX0_setRows_J7_fill_d0a16 : GoodIn wsX0_setRows wsJ7_fill_d0a16 := goodIn_r _ [9] (by decide +kernel) (by decide +kernel)
set_option maxRecDepth 20000 in
theorem gX0_setRows_J7_fill_d0a16 : GoodIn wsX0_setRows (va_wsS RX0 105 yJ7_fill_d0a16 wsJ7_fill_d0a16) := goodIn_app (goodIn_of _ (by decide +kernel)) ggX0_setRows_J7_fill_d0a16
theorem dX0_setRows_0 : decode cX0_setRows 0 = .ok (.iconst 0, 1) := by decide +kernel
theorem dX0_setRows_1 : decode cX0_setRows 1 = .ok (.istore_n 1, 1) := by decide +kernel
theorem dX0_setRows_2 : decode cX0_setRows 2 = .ok (.iload_n 1, 1) := by decide +kernel
theorem dX0_setRows_3 : decode cX0_setRows 3 = .ok (.aload_n 0, 1) := by decide +kernel
theorem dX0_setRows_4 : decode cX0_setRows 4 = .ok (.getfield 30, 3) := by decide +kernel
theorem dX0_setRows_7 : decode cX0_setRows 7 = .ok (.if_icmp .ge 50, 3) := by decide +kernel
theorem dX0_setRows_10 : decode cX0_setRows 10 = .ok (.aload_n 0, 1) := by decide +kernel
theorem dX0_setRows_11 : decode cX0_setRows 11 = .ok (.getfield 23, 3) := by decide +kernel
theorem dX0_setRows_14 : decode cX0_setRows 14 = .ok (.iload_n 1, 1) := by decide +kernel
theorem dX0_setRows_15 : decode cX0_setRows 15 = .ok (.aaload, 1) := by decide +kernel
theorem dX0_setRows_16 : decode cX0_setRows 16 = .ok (.lconst 0, 1) := by decide +kernel
theorem dX0_setRows_17 : decode cX0_setRows 17 = .ok (.invokestatic 105, 3) := by decide +kernel
theorem dX0_setRows_20 : decode cX0_setRows 20 = .ok (.aload_n 0, 1) := by decide +kernel
theorem dX0_setRows_21 : decode cX0_setRows 21 = .ok (.getfield 23, 3) := by decide +kernel
theorem dX0_setRows_24 : decode cX0_setRows 24 = .ok (.iload_n 1, 1) := by decide +kernel
theorem dX0_setRows_25 : decode cX0_setRows 25 = .ok (.aaload, 1) := by decide +kernel
theorem dX0_setRows_26 : decode cX0_setRows 26 = .ok (.iload_n 1, 1) := by decide +kernel
theorem dX0_setRows_27 : decode cX0_setRows 27 = .ok (.ldc2_w 108, 3) := by decide +kernel
theorem dX0_setRows_30 : decode cX0_setRows 30 = .ok (.lastore, 1) := by decide +kernel
theorem dX0_setRows_31 : decode cX0_setRows 31 = .ok (.aload_n 0, 1) := by decide +kernel
theorem dX0_setRows_32 : decode cX0_setRows 32 = .ok (.getfield 23, 3) := by decide +kernel
theorem dX0_setRows_35 : decode cX0_setRows 35 = .ok (.iload_n 1, 1) := by decide +kernel
theorem dX0_setRows_36 : decode cX0_setRows 36 = .ok (.aaload, 1) := by decide +kernel
theorem dX0_setRows_37 : decode cX0_setRows 37 = .ok (.aload_n 0, 1) := by decide +kernel
theorem dX0_setRows_38 : decode cX0_setRows 38 = .ok (.getfield 30, 3) := by decide +kernel
theorem dX0_setRows_41 : decode cX0_setRows 41 = .ok (.iload_n 1, 1) := by decide +kernel
theorem dX0_setRows_42 : decode cX0_setRows 42 = .ok (.ifCond .ne 7, 3) := by decide +kernel
theorem dX0_setRows_45 : decode cX0_setRows 45 = .ok (.lconst 1, 1) := by decide +kernel
theorem dX0_setRows_46 : decode cX0_setRows 46 = .ok (.goto 4, 3) := by decide +kernel
theorem dX0_setRows_49 : decode cX0_setRows 49 = .ok (.lconst 0, 1) := by decide +kernel
theorem dX0_setRows_50 : decode cX0_setRows 50 = .ok (.lastore, 1) := by decide +kernel
theorem dX0_setRows_51 : decode cX0_setRows 51 = .ok (.iinc 1 1, 3) := by decide +kernel
theorem dX0_setRows_54 : decode cX0_setRows 54 = .ok (.goto (-52), 3) := by decide +kernel
theorem dX0_setRows_57 : decode cX0_setRows 57 = .ok (.iconst 0, 1) := by decide +kernel
theorem dX0_setRows_58 : decode cX0_setRows 58 = .ok (.istore_n 1, 1) := by decide +kernel
theorem dX0_setRows_59 : decode cX0_setRows 59 = .ok (.iload_n 1, 1) := by decide +kernel
theorem dX0_setRows_60 : decode cX0_setRows 60 = .ok (.iconst 2, 1) := by decide +kernel
theorem dX0_setRows_61 : decode cX0_setRows 61 = .ok (.aload_n 0, 1) := by decide +kernel
theorem dX0_setRows_62 : decode cX0_setRows 62 = .ok (.getfield 30, 3) := by decide +kernel
theorem dX0_setRows_65 : decode cX0_setRows 65 = .ok (.imul, 1) := by decide +kernel
theorem dX0_setRows_66 : decode cX0_setRows 66 = .ok (.if_icmp .ge 64, 3) := by decide +kernel
theorem dX0_setRows_69 : decode cX0_setRows 69 = .ok (.aload_n 0, 1) := by decide +kernel
theorem dX0_setRows_70 : decode cX0_setRows 70 = .ok (.getfield 18, 3) := by decide +kernel
theorem dX0_setRows_73 : decode cX0_setRows 73 = .ok (.iload_n 1, 1) := by decide +kernel
theorem dX0_setRows_74 : decode cX0_setRows 74 = .ok (.iaload, 1) := by decide +kernel
theorem dX0_setRows_75 : decode cX0_setRows 75 = .ok (.istore_n 2, 1) := by decide +kernel
theorem dX0_setRows_76 : decode cX0_setRows 76 = .ok (.iload_n 2, 1) := by decide +kernel
theorem dX0_setRows_77 : decode cX0_setRows 77 = .ok (.ifCond .lt 18, 3) := by decide +kernel
theorem dX0_setRows_80 : decode cX0_setRows 80 = .ok (.iload_n 2, 1) := by decide +kernel
theorem dX0_setRows_81 : decode cX0_setRows 81 = .ok (.bipush 60, 2) := by decide +kernel
theorem dX0_setRows_83 : decode cX0_setRows 83 = .ok (.if_icmp .ge 12, 3) := by decide +kernel
theorem dX0_setRows_86 : decode cX0_setRows 86 = .ok (.aload_n 0, 1) := by decide +kernel
theorem dX0_setRows_87 : decode cX0_setRows 87 = .ok (.getfield 15, 3) := by decide +kernel
theorem dX0_setRows_90 : decode cX0_setRows 90 = .ok (.iload_n 2, 1) := by decide +kernel
theorem dX0_setRows_91 : decode cX0_setRows 91 = .ok (.iaload, 1) := by decide +kernel
theorem dX0_setRows_92 : decode cX0_setRows 92 = .ok (.goto 5, 3) := by decide +kernel
theorem dX0_setRows_95 : decode cX0_setRows 95 = .ok (.bipush (-4), 2) := by decide +kernel
theorem dX0_setRows_97 : decode cX0_setRows 97 = .ok (.istore_n 3, 1) := by decide +kernel
theorem dX0_setRows_98 : decode cX0_setRows 98 = .ok (.iload_n 3, 1) := by decide +kernel
theorem dX0_setRows_99 : decode cX0_setRows 99 = .ok (.ifCond .lt 25, 3) := by decide +kernel
theorem dX0_setRows_102 : decode cX0_setRows 102 = .ok (.iload_n 3, 1) := by decide +kernel
theorem dX0_setRows_103 : decode cX0_setRows 103 = .ok (.aload_n 0, 1) := by decide +kernel
theorem dX0_setRows_104 : decode cX0_setRows 104 = .ok (.getfield 30, 3) := by decide +kernel
theorem dX0_setRows_107 : decode cX0_setRows 107 = .ok (.if_icmp .ge 17, 3) := by decide +kernel
theorem dX0_setRows_110 : decode cX0_setRows 110 = .ok (.aload_n 0, 1) := by decide +kernel
theorem dX0_setRows_111 : decode cX0_setRows 111 = .ok (.getfield 23, 3) := by decide +kernel
theorem dX0_setRows_114 : decode cX0_setRows 114 = .ok (.iload_n 3, 1) := by decide +kernel
theorem dX0_setRows_115 : decode cX0_setRows 115 = .ok (.aaload, 1) := by decide +kernel
theorem dX0_setRows_116 : decode cX0_setRows 116 = .ok (.iload_n 1, 1) := by decide +kernel
theorem dX0_setRows_117 : decode cX0_setRows 117 = .ok (.iconst 2, 1) := by decide +kernel
theorem dX0_setRows_118 : decode cX0_setRows 118 = .ok (.idiv, 1) := by decide +kernel
theorem dX0_setRows_119 : decode cX0_setRows 119 = .ok (.dup2, 1) := by decide +kernel
theorem dX0_setRows_120 : decode cX0_setRows 120 = .ok (.laload, 1) := by decide +kernel
theorem dX0_setRows_121 : decode cX0_setRows 121 = .ok (.lconst 1, 1) := by decide +kernel
theorem dX0_setRows_122 : decode cX0_setRows 122 = .ok (.lsub, 1) := by decide +kernel
theorem dX0_setRows_123 : decode cX0_setRows 123 = .ok (.lastore, 1) := by decide +kernel
theorem dX0_setRows_124 : decode cX0_setRows 124 = .ok (.iinc 1 1, 3) := by decide +kernel
theorem dX0_setRows_127 : decode cX0_setRows 127 = .ok (.goto (-68), 3) := by decide +kernel
theorem dX0_setRows_130 : decode cX0_setRows 130 = .ok (.return_, 1) := by decide +kernel
set_option maxRecDepth 20000 in
theorem ggX0_solveRows_X0_clearColumn : GoodIn wsX0_solveRows wsX0_clearColumn := goodIn_r _ [8, 2, 1, 9, 10, 11, 12, 13, 14, 15] (by decide +kernel) (by decide +kernel)
set_option maxRecDepth 20000 in
theorem gX0_solveRows_X0_clearColumn : GoodIn wsX0_solveRows (wsV RX0 110 RX0 yX0_clearColumn wsX0_clearColumn) := goodIn_app (goodIn_of _ (by decide +kernel)) ggX0_solveRows_X0_clearColumn
theorem dX0_solveRows_0 : decode cX0_solveRows 0 = .ok (.aload_n 0, 1) := by decide +kernel
theorem dX0_solveRows_1 : decode cX0_solveRows 1 = .ok (.lconst 1, 1) := by decide +kernel
theorem dX0_solveRows_2 : decode cX0_solveRows 2 = .ok (.putfield 34, 3) := by decide +kernel
theorem dX0_solveRows_5 : decode cX0_solveRows 5 = .ok (.iconst 0, 1) := by decide +kernel
theorem dX0_solveRows_6 : decode cX0_solveRows 6 = .ok (.istore_n 1, 1) := by decide +kernel
theorem dX0_solveRows_7 : decode cX0_solveRows 7 = .ok (.iload_n 1, 1) := by decide +kernel
theorem dX0_solveRows_8 : decode cX0_solveRows 8 = .ok (.aload_n 0, 1) := by decide +kernel
theorem dX0_solveRows_9 : decode cX0_solveRows 9 = .ok (.getfield 30, 3) := by decide +kernel
theorem dX0_solveRows_12 : decode cX0_solveRows 12 = .ok (.if_icmp .ge 66, 3) := by decide +kernel
theorem dX0_solveRows_15 : decode cX0_solveRows 15 = .ok (.aload_n 0, 1) := by decide +kernel
theorem dX0_solveRows_16 : decode cX0_solveRows 16 = .ok (.getfield 23, 3) := by decide +kernel
theorem dX0_solveRows_19 : decode cX0_solveRows 19 = .ok (.iload_n 1, 1) := by decide +kernel
theorem dX0_solveRows_20 : decode cX0_solveRows 20 = .ok (.aaload, 1) := by decide +kernel
theorem dX0_solveRows_21 : decode cX0_solveRows 21 = .ok (.iload_n 1, 1) := by decide +kernel
theorem dX0_solveRows_22 : decode cX0_solveRows 22 = .ok (.laload, 1) := by decide +kernel
theorem dX0_solveRows_23 : decode cX0_solveRows 23 = .ok (.lstore_n 2, 1) := by decide +kernel
theorem dX0_solveRows_24 : decode cX0_solveRows 24 = .ok (.iconst 0, 1) := by decide +kernel
theorem dX0_solveRows_25 : decode cX0_solveRows 25 = .ok (.istore 4, 2) := by decide +kernel
theorem dX0_solveRows_27 : decode cX0_solveRows 27 = .ok (.iload 4, 2) := by decide +kernel
theorem dX0_solveRows_29 : decode cX0_solveRows 29 = .ok (.aload_n 0, 1) := by decide +kernel
theorem dX0_solveRows_30 : decode cX0_solveRows 30 = .ok (.getfield 30, 3) := by decide +kernel
theorem dX0_solveRows_33 : decode cX0_solveRows 33 = .ok (.if_icmp .ge 34, 3) := by decide +kernel
theorem dX0_solveRows_36 : decode cX0_solveRows 36 = .ok (.iload 4, 2) := by decide +kernel
theorem dX0_solveRows_38 : decode cX0_solveRows 38 = .ok (.iload_n 1, 1) := by decide +kernel
theorem dX0_solveRows_39 : decode cX0_solveRows 39 = .ok (.if_icmp .eq 22, 3) := by decide +kernel
theorem dX0_solveRows_42 : decode cX0_solveRows 42 = .ok (.aload_n 0, 1) := by decide +kernel
theorem dX0_solveRows_43 : decode cX0_solveRows 43 = .ok (.aload_n 0, 1) := by decide +kernel
theorem dX0_solveRows_44 : decode cX0_solveRows 44 = .ok (.getfield 23, 3) := by decide +kernel
theorem dX0_solveRows_47 : decode cX0_solveRows 47 = .ok (.iload 4, 2) := by decide +kernel
theorem dX0_solveRows_49 : decode cX0_solveRows 49 = .ok (.aaload, 1) := by decide +kernel
theorem dX0_solveRows_50 : decode cX0_solveRows 50 = .ok (.aload_n 0, 1) := by decide +kernel
theorem dX0_solveRows_51 : decode cX0_solveRows 51 = .ok (.getfield 23, 3) := by decide +kernel
theorem dX0_solveRows_54 : decode cX0_solveRows 54 = .ok (.iload_n 1, 1) := by decide +kernel
theorem dX0_solveRows_55 : decode cX0_solveRows 55 = .ok (.aaload, 1) := by decide +kernel
theorem dX0_solveRows_56 : decode cX0_solveRows 56 = .ok (.iload_n 1, 1) := by decide +kernel
theorem dX0_solveRows_57 : decode cX0_solveRows 57 = .ok (.lload_n 2, 1) := by decide +kernel
theorem dX0_solveRows_58 : decode cX0_solveRows 58 = .ok (.invokevirtual 110, 3) := by decide +kernel
theorem dX0_solveRows_61 : decode cX0_solveRows 61 = .ok (.iinc 4 1, 3) := by decide +kernel
theorem dX0_solveRows_64 : decode cX0_solveRows 64 = .ok (.goto (-37), 3) := by decide +kernel
theorem dX0_solveRows_67 : decode cX0_solveRows 67 = .ok (.aload_n 0, 1) := by decide +kernel
theorem dX0_solveRows_68 : decode cX0_solveRows 68 = .ok (.lload_n 2, 1) := by decide +kernel
theorem dX0_solveRows_69 : decode cX0_solveRows 69 = .ok (.putfield 34, 3) := by decide +kernel
theorem dX0_solveRows_72 : decode cX0_solveRows 72 = .ok (.iinc 1 1, 3) := by decide +kernel
theorem dX0_solveRows_75 : decode cX0_solveRows 75 = .ok (.goto (-68), 3) := by decide +kernel
theorem dX0_solveRows_78 : decode cX0_solveRows 78 = .ok (.return_, 1) := by decide +kernel
theorem dX0_clearColumn_0 : decode cX0_clearColumn 0 = .ok (.iload_n 3, 1) := by decide +kernel
theorem dX0_clearColumn_1 : decode cX0_clearColumn 1 = .ok (.iconst 1, 1) := by decide +kernel
theorem dX0_clearColumn_2 : decode cX0_clearColumn 2 = .ok (.iadd, 1) := by decide +kernel
theorem dX0_clearColumn_3 : decode cX0_clearColumn 3 = .ok (.istore 6, 2) := by decide +kernel
theorem dX0_clearColumn_5 : decode cX0_clearColumn 5 = .ok (.iload 6, 2) := by decide +kernel
theorem dX0_clearColumn_7 : decode cX0_clearColumn 7 = .ok (.aload_n 0, 1) := by decide +kernel
theorem dX0_clearColumn_8 : decode cX0_clearColumn 8 = .ok (.getfield 30, 3) := by decide +kernel
theorem dX0_clearColumn_11 : decode cX0_clearColumn 11 = .ok (.if_icmp .gt 43, 3) := by decide +kernel
theorem dX0_clearColumn_14 : decode cX0_clearColumn 14 = .ok (.aload_n 0, 1) := by decide +kernel
theorem dX0_clearColumn_15 : decode cX0_clearColumn 15 = .ok (.getfield 34, 3) := by decide +kernel
theorem dX0_clearColumn_18 : decode cX0_clearColumn 18 = .ok (.lconst 0, 1) := by decide +kernel
theorem dX0_clearColumn_19 : decode cX0_clearColumn 19 = .ok (.lcmp, 1) := by decide +kernel
theorem dX0_clearColumn_20 : decode cX0_clearColumn 20 = .ok (.ifCond .eq 34, 3) := by decide +kernel
theorem dX0_clearColumn_23 : decode cX0_clearColumn 23 = .ok (.aload_n 1, 1) := by decide +kernel
theorem dX0_clearColumn_24 : decode cX0_clearColumn 24 = .ok (.iload 6, 2) := by decide +kernel
theorem dX0_clearColumn_26 : decode cX0_clearColumn 26 = .ok (.lload 4, 2) := by decide +kernel
theorem dX0_clearColumn_28 : decode cX0_clearColumn 28 = .ok (.aload_n 1, 1) := by decide +kernel
theorem dX0_clearColumn_29 : decode cX0_clearColumn 29 = .ok (.iload 6, 2) := by decide +kernel
theorem dX0_clearColumn_31 : decode cX0_clearColumn 31 = .ok (.laload, 1) := by decide +kernel
theorem dX0_clearColumn_32 : decode cX0_clearColumn 32 = .ok (.lmul, 1) := by decide +kernel
theorem dX0_clearColumn_33 : decode cX0_clearColumn 33 = .ok (.aload_n 1, 1) := by decide +kernel
theorem dX0_clearColumn_34 : decode cX0_clearColumn 34 = .ok (.iload_n 3, 1) := by decide +kernel
theorem dX0_clearColumn_35 : decode cX0_clearColumn 35 = .ok (.laload, 1) := by decide +kernel
theorem dX0_clearColumn_36 : decode cX0_clearColumn 36 = .ok (.aload_n 2, 1) := by decide +kernel
theorem dX0_clearColumn_37 : decode cX0_clearColumn 37 = .ok (.iload 6, 2) := by decide +kernel
theorem dX0_clearColumn_39 : decode cX0_clearColumn 39 = .ok (.laload, 1) := by decide +kernel
theorem dX0_clearColumn_40 : decode cX0_clearColumn 40 = .ok (.lmul, 1) := by decide +kernel
theorem dX0_clearColumn_41 : decode cX0_clearColumn 41 = .ok (.lsub, 1) := by decide +kernel
theorem dX0_clearColumn_42 : decode cX0_clearColumn 42 = .ok (.aload_n 0, 1) := by decide +kernel
theorem dX0_clearColumn_43 : decode cX0_clearColumn 43 = .ok (.getfield 34, 3) := by decide +kernel
theorem dX0_clearColumn_46 : decode cX0_clearColumn 46 = .ok (.ldiv, 1) := by decide +kernel
theorem dX0_clearColumn_47 : decode cX0_clearColumn 47 = .ok (.lastore, 1) := by decide +kernel
theorem dX0_clearColumn_48 : decode cX0_clearColumn 48 = .ok (.iinc 6 1, 3) := by decide +kernel
theorem dX0_clearColumn_51 : decode cX0_clearColumn 51 = .ok (.goto (-46), 3) := by decide +kernel
theorem dX0_clearColumn_54 : decode cX0_clearColumn 54 = .ok (.return_, 1) := by decide +kernel
set_option maxRecDepth 20000 in
theorem ggX0_addParts_J7_fill_d0a16 : GoodIn wsX0_addParts wsJ7_fill_d0a16 := goodIn_r _ [9] (by decide +kernel) (by decide +kernel)
set_option maxRecDepth 20000 in
theorem gX0_addParts_J7_fill_d0a16 : GoodIn wsX0_addParts (va_wsS RX0 105 yJ7_fill_d0a16 wsJ7_fill_d0a16) := goodIn_app (goodIn_of _ (by decide +kernel)) ggX0_addParts_J7_fill_d0a16
set_option maxRecDepth 20000 in
theorem ggX0_addParts_X0_addPart : GoodIn wsX0_addParts wsX0_addPart := goodIn_r _ [14, 1, 15, 16, 17, 18, 19, 20, 21] (by decide +kernel) (by decide +kernel)
set_option maxRecDepth 20000 in
theorem gX0_addParts_X0_addPart : GoodIn wsX0_addParts (wsV RX0 114 RX0 yX0_addPart wsX0_addPart) := goodIn_app (goodIn_of _ (by decide +kernel)) ggX0_addParts_X0_addPart
theorem dX0_addParts_0 : decode cX0_addParts 0 = .ok (.aload_n 0, 1) := by decide +kernel
theorem dX0_addParts_1 : decode cX0_addParts 1 = .ok (.getfield 26, 3) := by decide +kernel
theorem dX0_addParts_4 : decode cX0_addParts 4 = .ok (.lconst 0, 1) := by decide +kernel
theorem dX0_addParts_5 : decode cX0_addParts 5 = .ok (.invokestatic 105, 3) := by decide +kernel
theorem dX0_addParts_8 : decode cX0_addParts 8 = .ok (.aload_n 0, 1) := by decide +kernel
theorem dX0_addParts_9 : decode cX0_addParts 9 = .ok (.iload_n 1, 1) := by decide +kernel
theorem dX0_addParts_10 : decode cX0_addParts 10 = .ok (.aload_n 0, 1) := by decide +kernel
theorem dX0_addParts_11 : decode cX0_addParts 11 = .ok (.getfield 34, 3) := by decide +kernel
theorem dX0_addParts_14 : decode cX0_addParts 14 = .ok (.invokevirtual 114, 3) := by decide +kernel
theorem dX0_addParts_17 : decode cX0_addParts 17 = .ok (.iconst 0, 1) := by decide +kernel
theorem dX0_addParts_18 : decode cX0_addParts 18 = .ok (.istore_n 2, 1) := by decide +kernel
theorem dX0_addParts_19 : decode cX0_addParts 19 = .ok (.iload_n 2, 1) := by decide +kernel
theorem dX0_addParts_20 : decode cX0_addParts 20 = .ok (.iconst 2, 1) := by decide +kernel
theorem dX0_addParts_21 : decode cX0_addParts 21 = .ok (.aload_n 0, 1) := by decide +kernel
theorem dX0_addParts_22 : decode cX0_addParts 22 = .ok (.getfield 30, 3) := by decide +kernel
theorem dX0_addParts_25 : decode cX0_addParts 25 = .ok (.imul, 1) := by decide +kernel
theorem dX0_addParts_26 : decode cX0_addParts 26 = .ok (.if_icmp .ge 32, 3) := by decide +kernel
theorem dX0_addParts_29 : decode cX0_addParts 29 = .ok (.aload_n 0, 1) := by decide +kernel
theorem dX0_addParts_30 : decode cX0_addParts 30 = .ok (.aload_n 0, 1) := by decide +kernel
theorem dX0_addParts_31 : decode cX0_addParts 31 = .ok (.getfield 18, 3) := by decide +kernel
theorem dX0_addParts_34 : decode cX0_addParts 34 = .ok (.iload_n 2, 1) := by decide +kernel
theorem dX0_addParts_35 : decode cX0_addParts 35 = .ok (.iaload, 1) := by decide +kernel
theorem dX0_addParts_36 : decode cX0_addParts 36 = .ok (.aload_n 0, 1) := by decide +kernel
theorem dX0_addParts_37 : decode cX0_addParts 37 = .ok (.getfield 23, 3) := by decide +kernel
theorem dX0_addParts_40 : decode cX0_addParts 40 = .ok (.iload_n 2, 1) := by decide +kernel
theorem dX0_addParts_41 : decode cX0_addParts 41 = .ok (.iconst 2, 1) := by decide +kernel
theorem dX0_addParts_42 : decode cX0_addParts 42 = .ok (.idiv, 1) := by decide +kernel
theorem dX0_addParts_43 : decode cX0_addParts 43 = .ok (.aaload, 1) := by decide +kernel
theorem dX0_addParts_44 : decode cX0_addParts 44 = .ok (.aload_n 0, 1) := by decide +kernel
theorem dX0_addParts_45 : decode cX0_addParts 45 = .ok (.getfield 30, 3) := by decide +kernel
theorem dX0_addParts_48 : decode cX0_addParts 48 = .ok (.laload, 1) := by decide +kernel
theorem dX0_addParts_49 : decode cX0_addParts 49 = .ok (.invokevirtual 114, 3) := by decide +kernel
theorem dX0_addParts_52 : decode cX0_addParts 52 = .ok (.iinc 2 1, 3) := by decide +kernel
theorem dX0_addParts_55 : decode cX0_addParts 55 = .ok (.goto (-36), 3) := by decide +kernel
theorem dX0_addParts_58 : decode cX0_addParts 58 = .ok (.return_, 1) := by decide +kernel
theorem dX0_addPart_0 : decode cX0_addPart 0 = .ok (.iload_n 1, 1) := by decide +kernel
theorem dX0_addPart_1 : decode cX0_addPart 1 = .ok (.ifCond .lt 19, 3) := by decide +kernel
theorem dX0_addPart_4 : decode cX0_addPart 4 = .ok (.iload_n 1, 1) := by decide +kernel
theorem dX0_addPart_5 : decode cX0_addPart 5 = .ok (.bipush 60, 2) := by decide +kernel
theorem dX0_addPart_7 : decode cX0_addPart 7 = .ok (.if_icmp .ge 13, 3) := by decide +kernel
theorem dX0_addPart_10 : decode cX0_addPart 10 = .ok (.aload_n 0, 1) := by decide +kernel
theorem dX0_addPart_11 : decode cX0_addPart 11 = .ok (.getfield 26, 3) := by decide +kernel
theorem dX0_addPart_14 : decode cX0_addPart 14 = .ok (.iload_n 1, 1) := by decide +kernel
theorem dX0_addPart_15 : decode cX0_addPart 15 = .ok (.dup2, 1) := by decide +kernel
theorem dX0_addPart_16 : decode cX0_addPart 16 = .ok (.laload, 1) := by decide +kernel
theorem dX0_addPart_17 : decode cX0_addPart 17 = .ok (.lload_n 2, 1) := by decide +kernel
theorem dX0_addPart_18 : decode cX0_addPart 18 = .ok (.ladd, 1) := by decide +kernel
theorem dX0_addPart_19 : decode cX0_addPart 19 = .ok (.lastore, 1) := by decide +kernel
theorem dX0_addPart_20 : decode cX0_addPart 20 = .ok (.return_, 1) := by decide +kernel
theorem dX1_init_0 : decode cX1_init 0 = .ok (.aload_n 0, 1) := by decide +kernel
theorem dX1_init_1 : decode cX1_init 1 = .ok (.invokespecial 3, 3) := by decide +kernel
theorem dX1_init_4 : decode cX1_init 4 = .ok (.aload_n 0, 1) := by decide +kernel
theorem dX1_init_5 : decode cX1_init 5 = .ok (.iconst 4, 1) := by decide +kernel
theorem dX1_init_6 : decode cX1_init 6 = .ok (.newarray .int, 2) := by decide +kernel
theorem dX1_init_8 : decode cX1_init 8 = .ok (.putfield 9, 3) := by decide +kernel
theorem dX1_init_11 : decode cX1_init 11 = .ok (.aload_n 0, 1) := by decide +kernel
theorem dX1_init_12 : decode cX1_init 12 = .ok (.iconst 0, 1) := by decide +kernel
theorem dX1_init_13 : decode cX1_init 13 = .ok (.putfield 15, 3) := by decide +kernel
theorem dX1_init_16 : decode cX1_init 16 = .ok (.return_, 1) := by decide +kernel
theorem dX1_cellOf_0 : decode cX1_cellOf 0 = .ok (.iload_n 0, 1) := by decide +kernel
theorem dX1_cellOf_1 : decode cX1_cellOf 1 = .ok (.bipush 8, 2) := by decide +kernel
theorem dX1_cellOf_3 : decode cX1_cellOf 3 = .ok (.idiv, 1) := by decide +kernel
theorem dX1_cellOf_4 : decode cX1_cellOf 4 = .ok (.ireturn, 1) := by decide +kernel
theorem dX1_kindOf_0 : decode cX1_kindOf 0 = .ok (.iload_n 0, 1) := by decide +kernel
theorem dX1_kindOf_1 : decode cX1_kindOf 1 = .ok (.bipush 8, 2) := by decide +kernel
theorem dX1_kindOf_3 : decode cX1_kindOf 3 = .ok (.irem, 1) := by decide +kernel
theorem dX1_kindOf_4 : decode cX1_kindOf 4 = .ok (.ireturn, 1) := by decide +kernel
set_option maxRecDepth 20000 in
theorem ggX1_rememberKind_X1_remember : GoodIn wsX1_rememberKind wsX1_remember := goodIn_r _ [5, 6, 7, 8, 9, 10, 11, 12, 13] (by decide +kernel) (by decide +kernel)
set_option maxRecDepth 20000 in
theorem gX1_rememberKind_X1_remember : GoodIn wsX1_rememberKind (wsV RX1 19 RX1 yX1_remember wsX1_remember) := goodIn_app (goodIn_of _ (by decide +kernel)) ggX1_rememberKind_X1_remember
theorem dX1_rememberKind_0 : decode cX1_rememberKind 0 = .ok (.aload_n 0, 1) := by decide +kernel
theorem dX1_rememberKind_1 : decode cX1_rememberKind 1 = .ok (.iload_n 1, 1) := by decide +kernel
theorem dX1_rememberKind_2 : decode cX1_rememberKind 2 = .ok (.bipush 8, 2) := by decide +kernel
theorem dX1_rememberKind_4 : decode cX1_rememberKind 4 = .ok (.imul, 1) := by decide +kernel
theorem dX1_rememberKind_5 : decode cX1_rememberKind 5 = .ok (.iload_n 2, 1) := by decide +kernel
theorem dX1_rememberKind_6 : decode cX1_rememberKind 6 = .ok (.iadd, 1) := by decide +kernel
theorem dX1_rememberKind_7 : decode cX1_rememberKind 7 = .ok (.invokevirtual 19, 3) := by decide +kernel
theorem dX1_rememberKind_10 : decode cX1_rememberKind 10 = .ok (.return_, 1) := by decide +kernel
set_option maxRecDepth 20000 in
theorem ggX1_rememberTurn_X1_remember : GoodIn wsX1_rememberTurn wsX1_remember := goodIn_r _ [5, 6, 7, 8, 9, 10, 11, 12, 13] (by decide +kernel) (by decide +kernel)
set_option maxRecDepth 20000 in
theorem gX1_rememberTurn_X1_remember : GoodIn wsX1_rememberTurn (wsV RX1 19 RX1 yX1_remember wsX1_remember) := goodIn_app (goodIn_of _ (by decide +kernel)) ggX1_rememberTurn_X1_remember
theorem dX1_rememberTurn_0 : decode cX1_rememberTurn 0 = .ok (.aload_n 0, 1) := by decide +kernel
theorem dX1_rememberTurn_1 : decode cX1_rememberTurn 1 = .ok (.iconst (-1), 1) := by decide +kernel
theorem dX1_rememberTurn_2 : decode cX1_rememberTurn 2 = .ok (.invokevirtual 19, 3) := by decide +kernel
theorem dX1_rememberTurn_5 : decode cX1_rememberTurn 5 = .ok (.return_, 1) := by decide +kernel
theorem dX1_remember_0 : decode cX1_remember 0 = .ok (.aload_n 0, 1) := by decide +kernel
theorem dX1_remember_1 : decode cX1_remember 1 = .ok (.getfield 15, 3) := by decide +kernel
theorem dX1_remember_4 : decode cX1_remember 4 = .ok (.iconst 4, 1) := by decide +kernel
theorem dX1_remember_5 : decode cX1_remember 5 = .ok (.if_icmp .lt 22, 3) := by decide +kernel
theorem dX1_remember_8 : decode cX1_remember 8 = .ok (.aload_n 0, 1) := by decide +kernel
theorem dX1_remember_9 : decode cX1_remember 9 = .ok (.getfield 9, 3) := by decide +kernel
theorem dX1_remember_12 : decode cX1_remember 12 = .ok (.iconst 1, 1) := by decide +kernel
theorem dX1_remember_13 : decode cX1_remember 13 = .ok (.aload_n 0, 1) := by decide +kernel
theorem dX1_remember_14 : decode cX1_remember 14 = .ok (.getfield 9, 3) := by decide +kernel
theorem dX1_remember_17 : decode cX1_remember 17 = .ok (.iconst 0, 1) := by decide +kernel
theorem dX1_remember_18 : decode cX1_remember 18 = .ok (.iconst 3, 1) := by decide +kernel
theorem dX1_remember_19 : decode cX1_remember 19 = .ok (.invokestatic 23, 3) := by decide +kernel
theorem dX1_remember_22 : decode cX1_remember 22 = .ok (.aload_n 0, 1) := by decide +kernel
theorem dX1_remember_23 : decode cX1_remember 23 = .ok (.iconst 3, 1) := by decide +kernel
theorem dX1_remember_24 : decode cX1_remember 24 = .ok (.putfield 15, 3) := by decide +kernel
theorem dX1_remember_27 : decode cX1_remember 27 = .ok (.aload_n 0, 1) := by decide +kernel
theorem dX1_remember_28 : decode cX1_remember 28 = .ok (.getfield 9, 3) := by decide +kernel
theorem dX1_remember_31 : decode cX1_remember 31 = .ok (.aload_n 0, 1) := by decide +kernel
theorem dX1_remember_32 : decode cX1_remember 32 = .ok (.getfield 15, 3) := by decide +kernel
theorem dX1_remember_35 : decode cX1_remember 35 = .ok (.iload_n 1, 1) := by decide +kernel
theorem dX1_remember_36 : decode cX1_remember 36 = .ok (.iastore, 1) := by decide +kernel
theorem dX1_remember_37 : decode cX1_remember 37 = .ok (.aload_n 0, 1) := by decide +kernel
theorem dX1_remember_38 : decode cX1_remember 38 = .ok (.dup, 1) := by decide +kernel
theorem dX1_remember_39 : decode cX1_remember 39 = .ok (.getfield 15, 3) := by decide +kernel
theorem dX1_remember_42 : decode cX1_remember 42 = .ok (.iconst 1, 1) := by decide +kernel
theorem dX1_remember_43 : decode cX1_remember 43 = .ok (.iadd, 1) := by decide +kernel
theorem dX1_remember_44 : decode cX1_remember 44 = .ok (.putfield 15, 3) := by decide +kernel
theorem dX1_remember_47 : decode cX1_remember 47 = .ok (.return_, 1) := by decide +kernel
theorem dX1_takeLatest_0 : decode cX1_takeLatest 0 = .ok (.aload_n 0, 1) := by decide +kernel
theorem dX1_takeLatest_1 : decode cX1_takeLatest 1 = .ok (.getfield 15, 3) := by decide +kernel
theorem dX1_takeLatest_4 : decode cX1_takeLatest 4 = .ok (.ifCond .gt 5, 3) := by decide +kernel
theorem dX1_takeLatest_7 : decode cX1_takeLatest 7 = .ok (.iconst (-1), 1) := by decide +kernel
theorem dX1_takeLatest_8 : decode cX1_takeLatest 8 = .ok (.ireturn, 1) := by decide +kernel
theorem dX1_takeLatest_9 : decode cX1_takeLatest 9 = .ok (.aload_n 0, 1) := by decide +kernel
theorem dX1_takeLatest_10 : decode cX1_takeLatest 10 = .ok (.dup, 1) := by decide +kernel
theorem dX1_takeLatest_11 : decode cX1_takeLatest 11 = .ok (.getfield 15, 3) := by decide +kernel
theorem dX1_takeLatest_14 : decode cX1_takeLatest 14 = .ok (.iconst 1, 1) := by decide +kernel
theorem dX1_takeLatest_15 : decode cX1_takeLatest 15 = .ok (.isub, 1) := by decide +kernel
theorem dX1_takeLatest_16 : decode cX1_takeLatest 16 = .ok (.putfield 15, 3) := by decide +kernel
theorem dX1_takeLatest_19 : decode cX1_takeLatest 19 = .ok (.aload_n 0, 1) := by decide +kernel
theorem dX1_takeLatest_20 : decode cX1_takeLatest 20 = .ok (.getfield 9, 3) := by decide +kernel
theorem dX1_takeLatest_23 : decode cX1_takeLatest 23 = .ok (.aload_n 0, 1) := by decide +kernel
theorem dX1_takeLatest_24 : decode cX1_takeLatest 24 = .ok (.getfield 15, 3) := by decide +kernel
theorem dX1_takeLatest_27 : decode cX1_takeLatest 27 = .ok (.iaload, 1) := by decide +kernel
theorem dX1_takeLatest_28 : decode cX1_takeLatest 28 = .ok (.ireturn, 1) := by decide +kernel
theorem dX1_forget_0 : decode cX1_forget 0 = .ok (.aload_n 0, 1) := by decide +kernel
theorem dX1_forget_1 : decode cX1_forget 1 = .ok (.iconst 0, 1) := by decide +kernel
theorem dX1_forget_2 : decode cX1_forget 2 = .ok (.putfield 15, 3) := by decide +kernel
theorem dX1_forget_5 : decode cX1_forget 5 = .ok (.return_, 1) := by decide +kernel
theorem dX2_init_0 : decode cX2_init 0 = .ok (.aload_n 0, 1) := by decide +kernel
theorem dX2_init_1 : decode cX2_init 1 = .ok (.invokespecial 3, 3) := by decide +kernel
theorem dX2_init_4 : decode cX2_init 4 = .ok (.aload_n 0, 1) := by decide +kernel
theorem dX2_init_5 : decode cX2_init 5 = .ok (.bipush 20, 2) := by decide +kernel
theorem dX2_init_7 : decode cX2_init 7 = .ok (.newarray .int, 2) := by decide +kernel
theorem dX2_init_9 : decode cX2_init 9 = .ok (.putfield 9, 3) := by decide +kernel
theorem dX2_init_12 : decode cX2_init 12 = .ok (.aload_n 0, 1) := by decide +kernel
theorem dX2_init_13 : decode cX2_init 13 = .ok (.iconst 4, 1) := by decide +kernel
theorem dX2_init_14 : decode cX2_init 14 = .ok (.putfield 15, 3) := by decide +kernel
theorem dX2_init_17 : decode cX2_init 17 = .ok (.aload_n 0, 1) := by decide +kernel
theorem dX2_init_18 : decode cX2_init 18 = .ok (.iconst 3, 1) := by decide +kernel
theorem dX2_init_19 : decode cX2_init 19 = .ok (.putfield 19, 3) := by decide +kernel
theorem dX2_init_22 : decode cX2_init 22 = .ok (.getstatic 22, 3) := by decide +kernel
theorem dX2_init_25 : decode cX2_init 25 = .ok (.iconst 0, 1) := by decide +kernel
theorem dX2_init_26 : decode cX2_init 26 = .ok (.aload_n 0, 1) := by decide +kernel
theorem dX2_init_27 : decode cX2_init 27 = .ok (.getfield 9, 3) := by decide +kernel
theorem dX2_init_30 : decode cX2_init 30 = .ok (.iconst 0, 1) := by decide +kernel
theorem dX2_init_31 : decode cX2_init 31 = .ok (.getstatic 22, 3) := by decide +kernel
theorem dX2_init_34 : decode cX2_init 34 = .ok (.arraylength, 1) := by decide +kernel
theorem dX2_init_35 : decode cX2_init 35 = .ok (.invokestatic 25, 3) := by decide +kernel
theorem dX2_init_38 : decode cX2_init 38 = .ok (.return_, 1) := by decide +kernel
theorem dX2_cells_0 : decode cX2_cells 0 = .ok (.aload_n 0, 1) := by decide +kernel
theorem dX2_cells_1 : decode cX2_cells 1 = .ok (.getfield 15, 3) := by decide +kernel
theorem dX2_cells_4 : decode cX2_cells 4 = .ok (.aload_n 0, 1) := by decide +kernel
theorem dX2_cells_5 : decode cX2_cells 5 = .ok (.getfield 19, 3) := by decide +kernel
theorem dX2_cells_8 : decode cX2_cells 8 = .ok (.imul, 1) := by decide +kernel
theorem dX2_cells_9 : decode cX2_cells 9 = .ok (.ireturn, 1) := by decide +kernel
theorem dX2_ports_0 : decode cX2_ports 0 = .ok (.iconst 2, 1) := by decide +kernel
theorem dX2_ports_1 : decode cX2_ports 1 = .ok (.aload_n 0, 1) := by decide +kernel
theorem dX2_ports_2 : decode cX2_ports 2 = .ok (.getfield 15, 3) := by decide +kernel
theorem dX2_ports_5 : decode cX2_ports 5 = .ok (.aload_n 0, 1) := by decide +kernel
theorem dX2_ports_6 : decode cX2_ports 6 = .ok (.getfield 19, 3) := by decide +kernel
theorem dX2_ports_9 : decode cX2_ports 9 = .ok (.iadd, 1) := by decide +kernel
theorem dX2_ports_10 : decode cX2_ports 10 = .ok (.imul, 1) := by decide +kernel
theorem dX2_ports_11 : decode cX2_ports 11 = .ok (.ireturn, 1) := by decide +kernel
set_option maxRecDepth 20000 in
theorem ggX2_hasPort_X2_ports : GoodIn wsX2_hasPort wsX2_ports := goodIn_r _ [5, 6, 7, 8, 9, 10] (by decide +kernel) (by decide +kernel)
set_option maxRecDepth 20000 in
theorem gX2_hasPort_X2_ports : GoodIn wsX2_hasPort (wsV RX2 31 RX2 yX2_ports wsX2_ports) := goodIn_app (goodIn_of _ (by decide +kernel)) ggX2_hasPort_X2_ports
theorem dX2_hasPort_0 : decode cX2_hasPort 0 = .ok (.iload_n 1, 1) := by decide +kernel
theorem dX2_hasPort_1 : decode cX2_hasPort 1 = .ok (.ifCond .lt 15, 3) := by decide +kernel
theorem dX2_hasPort_4 : decode cX2_hasPort 4 = .ok (.iload_n 1, 1) := by decide +kernel
theorem dX2_hasPort_5 : decode cX2_hasPort 5 = .ok (.aload_n 0, 1) := by decide +kernel
theorem dX2_hasPort_6 : decode cX2_hasPort 6 = .ok (.invokevirtual 31, 3) := by decide +kernel
theorem dX2_hasPort_9 : decode cX2_hasPort 9 = .ok (.if_icmp .ge 7, 3) := by decide +kernel
theorem dX2_hasPort_12 : decode cX2_hasPort 12 = .ok (.iconst 1, 1) := by decide +kernel
theorem dX2_hasPort_13 : decode cX2_hasPort 13 = .ok (.goto 4, 3) := by decide +kernel
theorem dX2_hasPort_16 : decode cX2_hasPort 16 = .ok (.iconst 0, 1) := by decide +kernel
theorem dX2_hasPort_17 : decode cX2_hasPort 17 = .ok (.ireturn, 1) := by decide +kernel
set_option maxRecDepth 20000 in
theorem ggX2_kindAt_X2_cells : GoodIn wsX2_kindAt wsX2_cells := goodIn_r _ [6, 7, 8, 9, 10, 11] (by decide +kernel) (by decide +kernel)
set_option maxRecDepth 20000 in
theorem gX2_kindAt_X2_cells : GoodIn wsX2_kindAt (wsV RX2 35 RX2 yX2_cells wsX2_cells) := goodIn_app (goodIn_of _ (by decide +kernel)) ggX2_kindAt_X2_cells
theorem dX2_kindAt_0 : decode cX2_kindAt 0 = .ok (.iload_n 1, 1) := by decide +kernel
theorem dX2_kindAt_1 : decode cX2_kindAt 1 = .ok (.ifCond .lt 26, 3) := by decide +kernel
theorem dX2_kindAt_4 : decode cX2_kindAt 4 = .ok (.iload_n 1, 1) := by decide +kernel
theorem dX2_kindAt_5 : decode cX2_kindAt 5 = .ok (.aload_n 0, 1) := by decide +kernel
theorem dX2_kindAt_6 : decode cX2_kindAt 6 = .ok (.invokevirtual 35, 3) := by decide +kernel
theorem dX2_kindAt_9 : decode cX2_kindAt 9 = .ok (.if_icmp .ge 18, 3) := by decide +kernel
theorem dX2_kindAt_12 : decode cX2_kindAt 12 = .ok (.iload_n 1, 1) := by decide +kernel
theorem dX2_kindAt_13 : decode cX2_kindAt 13 = .ok (.bipush 20, 2) := by decide +kernel
theorem dX2_kindAt_15 : decode cX2_kindAt 15 = .ok (.if_icmp .ge 12, 3) := by decide +kernel
theorem dX2_kindAt_18 : decode cX2_kindAt 18 = .ok (.aload_n 0, 1) := by decide +kernel
theorem dX2_kindAt_19 : decode cX2_kindAt 19 = .ok (.getfield 9, 3) := by decide +kernel
theorem dX2_kindAt_22 : decode cX2_kindAt 22 = .ok (.iload_n 1, 1) := by decide +kernel
theorem dX2_kindAt_23 : decode cX2_kindAt 23 = .ok (.iaload, 1) := by decide +kernel
theorem dX2_kindAt_24 : decode cX2_kindAt 24 = .ok (.goto 4, 3) := by decide +kernel
theorem dX2_kindAt_27 : decode cX2_kindAt 27 = .ok (.iconst (-1), 1) := by decide +kernel
theorem dX2_kindAt_28 : decode cX2_kindAt 28 = .ok (.ireturn, 1) := by decide +kernel
set_option maxRecDepth 20000 in
theorem ggX2_tell_X2_cells : GoodIn wsX2_tell wsX2_cells := goodIn_r _ [6, 7, 8, 9, 10, 11] (by decide +kernel) (by decide +kernel)
set_option maxRecDepth 20000 in
theorem gX2_tell_X2_cells : GoodIn wsX2_tell (wsV RX2 35 RX2 yX2_cells wsX2_cells) := goodIn_app (goodIn_of _ (by decide +kernel)) ggX2_tell_X2_cells
theorem dX2_tell_0 : decode cX2_tell 0 = .ok (.iload_n 1, 1) := by decide +kernel
theorem dX2_tell_1 : decode cX2_tell 1 = .ok (.ifCond .lt 24, 3) := by decide +kernel
theorem dX2_tell_4 : decode cX2_tell 4 = .ok (.iload_n 1, 1) := by decide +kernel
theorem dX2_tell_5 : decode cX2_tell 5 = .ok (.aload_n 0, 1) := by decide +kernel
theorem dX2_tell_6 : decode cX2_tell 6 = .ok (.invokevirtual 35, 3) := by decide +kernel
theorem dX2_tell_9 : decode cX2_tell 9 = .ok (.if_icmp .ge 16, 3) := by decide +kernel
theorem dX2_tell_12 : decode cX2_tell 12 = .ok (.iload_n 1, 1) := by decide +kernel
theorem dX2_tell_13 : decode cX2_tell 13 = .ok (.bipush 20, 2) := by decide +kernel
theorem dX2_tell_15 : decode cX2_tell 15 = .ok (.if_icmp .ge 10, 3) := by decide +kernel
theorem dX2_tell_18 : decode cX2_tell 18 = .ok (.aload_n 0, 1) := by decide +kernel
theorem dX2_tell_19 : decode cX2_tell 19 = .ok (.getfield 9, 3) := by decide +kernel
theorem dX2_tell_22 : decode cX2_tell 22 = .ok (.iload_n 1, 1) := by decide +kernel
theorem dX2_tell_23 : decode cX2_tell 23 = .ok (.iload_n 2, 1) := by decide +kernel
theorem dX2_tell_24 : decode cX2_tell 24 = .ok (.iastore, 1) := by decide +kernel
theorem dX2_tell_25 : decode cX2_tell 25 = .ok (.return_, 1) := by decide +kernel
set_option maxRecDepth 20000 in
theorem ggX2_countKinds_X2_cells : GoodIn wsX2_countKinds wsX2_cells := goodIn_r _ [5, 6, 7, 13, 14, 15] (by decide +kernel) (by decide +kernel)
set_option maxRecDepth 20000 in
theorem gX2_countKinds_X2_cells : GoodIn wsX2_countKinds (wsV RX2 35 RX2 yX2_cells wsX2_cells) := goodIn_app (goodIn_of _ (by decide +kernel)) ggX2_countKinds_X2_cells
set_option maxRecDepth 20000 in
theorem ggX2_countKinds_X2_kindAt : GoodIn wsX2_countKinds wsX2_kindAt := goodIn_r _ [11, 12, 1, 2, 3, 4, 5, 6, 7, 13, 14, 15] (by decide +kernel) (by decide +kernel)
set_option maxRecDepth 20000 in
theorem gX2_countKinds_X2_kindAt : GoodIn wsX2_countKinds (wsV RX2 38 RX2 yX2_kindAt wsX2_kindAt) := goodIn_app (goodIn_of _ (by decide +kernel)) ggX2_countKinds_X2_kindAt
theorem dX2_countKinds_0 : decode cX2_countKinds 0 = .ok (.iconst 0, 1) := by decide +kernel
theorem dX2_countKinds_1 : decode cX2_countKinds 1 = .ok (.istore_n 3, 1) := by decide +kernel
theorem dX2_countKinds_2 : decode cX2_countKinds 2 = .ok (.iconst 0, 1) := by decide +kernel
theorem dX2_countKinds_3 : decode cX2_countKinds 3 = .ok (.istore 4, 2) := by decide +kernel
theorem dX2_countKinds_5 : decode cX2_countKinds 5 = .ok (.iload 4, 2) := by decide +kernel
theorem dX2_countKinds_7 : decode cX2_countKinds 7 = .ok (.aload_n 0, 1) := by decide +kernel
theorem dX2_countKinds_8 : decode cX2_countKinds 8 = .ok (.invokevirtual 35, 3) := by decide +kernel
theorem dX2_countKinds_11 : decode cX2_countKinds 11 = .ok (.if_icmp .ge 32, 3) := by decide +kernel
theorem dX2_countKinds_14 : decode cX2_countKinds 14 = .ok (.aload_n 0, 1) := by decide +kernel
theorem dX2_countKinds_15 : decode cX2_countKinds 15 = .ok (.iload 4, 2) := by decide +kernel
theorem dX2_countKinds_17 : decode cX2_countKinds 17 = .ok (.invokevirtual 38, 3) := by decide +kernel
theorem dX2_countKinds_20 : decode cX2_countKinds 20 = .ok (.istore 5, 2) := by decide +kernel
theorem dX2_countKinds_22 : decode cX2_countKinds 22 = .ok (.iload 5, 2) := by decide +kernel
theorem dX2_countKinds_24 : decode cX2_countKinds 24 = .ok (.iload_n 1, 1) := by decide +kernel
theorem dX2_countKinds_25 : decode cX2_countKinds 25 = .ok (.if_icmp .lt 12, 3) := by decide +kernel
theorem dX2_countKinds_28 : decode cX2_countKinds 28 = .ok (.iload 5, 2) := by decide +kernel
theorem dX2_countKinds_30 : decode cX2_countKinds 30 = .ok (.iload_n 2, 1) := by decide +kernel
theorem dX2_countKinds_31 : decode cX2_countKinds 31 = .ok (.if_icmp .gt 6, 3) := by decide +kernel
theorem dX2_countKinds_34 : decode cX2_countKinds 34 = .ok (.iinc 3 1, 3) := by decide +kernel
theorem dX2_countKinds_37 : decode cX2_countKinds 37 = .ok (.iinc 4 1, 3) := by decide +kernel
theorem dX2_countKinds_40 : decode cX2_countKinds 40 = .ok (.goto (-35), 3) := by decide +kernel
theorem dX2_countKinds_43 : decode cX2_countKinds 43 = .ok (.iload_n 3, 1) := by decide +kernel
theorem dX2_countKinds_44 : decode cX2_countKinds 44 = .ok (.ireturn, 1) := by decide +kernel
set_option maxRecDepth 20000 in
theorem ggX2_isOverfull_X2_countKinds : GoodIn wsX2_isOverfull wsX2_countKinds := goodIn_r _ [5, 6, 7, 8, 4, 9, 10, 11, 12, 13, 14, 15, 16, 17, 18, 19] (by decide +kernel) (by decide +kernel)
set_option maxRecDepth 20000 in
theorem gX2_isOverfull_X2_countKinds : GoodIn wsX2_isOverfull (wsV RX2 42 RX2 yX2_countKinds wsX2_countKinds) := goodIn_app (goodIn_of _ (by decide +kernel)) ggX2_isOverfull_X2_countKinds
theorem dX2_isOverfull_0 : decode cX2_isOverfull 0 = .ok (.aload_n 0, 1) := by decide +kernel
theorem dX2_isOverfull_1 : decode cX2_isOverfull 1 = .ok (.iconst 3, 1) := by decide +kernel
theorem dX2_isOverfull_2 : decode cX2_isOverfull 2 = .ok (.iconst 4, 1) := by decide +kernel
theorem dX2_isOverfull_3 : decode cX2_isOverfull 3 = .ok (.invokevirtual 42, 3) := by decide +kernel
theorem dX2_isOverfull_6 : decode cX2_isOverfull 6 = .ok (.iconst 5, 1) := by decide +kernel
theorem dX2_isOverfull_7 : decode cX2_isOverfull 7 = .ok (.if_icmp .gt 15, 3) := by decide +kernel
theorem dX2_isOverfull_10 : decode cX2_isOverfull 10 = .ok (.aload_n 0, 1) := by decide +kernel
theorem dX2_isOverfull_11 : decode cX2_isOverfull 11 = .ok (.bipush 6, 2) := by decide +kernel
theorem dX2_isOverfull_13 : decode cX2_isOverfull 13 = .ok (.bipush 7, 2) := by decide +kernel
theorem dX2_isOverfull_15 : decode cX2_isOverfull 15 = .ok (.invokevirtual 42, 3) := by decide +kernel
theorem dX2_isOverfull_18 : decode cX2_isOverfull 18 = .ok (.iconst 4, 1) := by decide +kernel
theorem dX2_isOverfull_19 : decode cX2_isOverfull 19 = .ok (.if_icmp .le 7, 3) := by decide +kernel
theorem dX2_isOverfull_22 : decode cX2_isOverfull 22 = .ok (.iconst 1, 1) := by decide +kernel
theorem dX2_isOverfull_23 : decode cX2_isOverfull 23 = .ok (.goto 4, 3) := by decide +kernel
theorem dX2_isOverfull_26 : decode cX2_isOverfull 26 = .ok (.iconst 0, 1) := by decide +kernel
theorem dX2_isOverfull_27 : decode cX2_isOverfull 27 = .ok (.ireturn, 1) := by decide +kernel
set_option maxRecDepth 20000 in
theorem ggX2_doorCell_X2_cells : GoodIn wsX2_doorCell wsX2_cells := goodIn_r _ [5, 6, 7, 13, 14, 15] (by decide +kernel) (by decide +kernel)
set_option maxRecDepth 20000 in
theorem gX2_doorCell_X2_cells : GoodIn wsX2_doorCell (wsV RX2 35 RX2 yX2_cells wsX2_cells) := goodIn_app (goodIn_of _ (by decide +kernel)) ggX2_doorCell_X2_cells
set_option maxRecDepth 20000 in
theorem ggX2_doorCell_X2_kindAt : GoodIn wsX2_doorCell wsX2_kindAt := goodIn_r _ [11, 12, 1, 2, 3, 4, 5, 6, 7, 13, 14, 15] (by decide +kernel) (by decide +kernel)
set_option maxRecDepth 20000 in
theorem gX2_doorCell_X2_kindAt : GoodIn wsX2_doorCell (wsV RX2 38 RX2 yX2_kindAt wsX2_kindAt) := goodIn_app (goodIn_of _ (by decide +kernel)) ggX2_doorCell_X2_kindAt
theorem dX2_doorCell_0 : decode cX2_doorCell 0 = .ok (.iconst 0, 1) := by decide +kernel
theorem dX2_doorCell_1 : decode cX2_doorCell 1 = .ok (.istore_n 2, 1) := by decide +kernel
theorem dX2_doorCell_2 : decode cX2_doorCell 2 = .ok (.iconst 0, 1) := by decide +kernel
theorem dX2_doorCell_3 : decode cX2_doorCell 3 = .ok (.istore_n 3, 1) := by decide +kernel
theorem dX2_doorCell_4 : decode cX2_doorCell 4 = .ok (.iload_n 3, 1) := by decide +kernel
theorem dX2_doorCell_5 : decode cX2_doorCell 5 = .ok (.aload_n 0, 1) := by decide +kernel
theorem dX2_doorCell_6 : decode cX2_doorCell 6 = .ok (.invokevirtual 35, 3) := by decide +kernel
theorem dX2_doorCell_9 : decode cX2_doorCell 9 = .ok (.if_icmp .ge 29, 3) := by decide +kernel
theorem dX2_doorCell_12 : decode cX2_doorCell 12 = .ok (.aload_n 0, 1) := by decide +kernel
theorem dX2_doorCell_13 : decode cX2_doorCell 13 = .ok (.iload_n 3, 1) := by decide +kernel
theorem dX2_doorCell_14 : decode cX2_doorCell 14 = .ok (.invokevirtual 38, 3) := by decide +kernel
theorem dX2_doorCell_17 : decode cX2_doorCell 17 = .ok (.bipush 6, 2) := by decide +kernel
theorem dX2_doorCell_19 : decode cX2_doorCell 19 = .ok (.if_icmp .lt 13, 3) := by decide +kernel
theorem dX2_doorCell_22 : decode cX2_doorCell 22 = .ok (.iload_n 2, 1) := by decide +kernel
theorem dX2_doorCell_23 : decode cX2_doorCell 23 = .ok (.iload_n 1, 1) := by decide +kernel
theorem dX2_doorCell_24 : decode cX2_doorCell 24 = .ok (.if_icmp .ne 5, 3) := by decide +kernel
theorem dX2_doorCell_27 : decode cX2_doorCell 27 = .ok (.iload_n 3, 1) := by decide +kernel
theorem dX2_doorCell_28 : decode cX2_doorCell 28 = .ok (.ireturn, 1) := by decide +kernel
theorem dX2_doorCell_29 : decode cX2_doorCell 29 = .ok (.iinc 2 1, 3) := by decide +kernel
theorem dX2_doorCell_32 : decode cX2_doorCell 32 = .ok (.iinc 3 1, 3) := by decide +kernel
theorem dX2_doorCell_35 : decode cX2_doorCell 35 = .ok (.goto (-31), 3) := by decide +kernel
theorem dX2_doorCell_38 : decode cX2_doorCell 38 = .ok (.iconst (-1), 1) := by decide +kernel
theorem dX2_doorCell_39 : decode cX2_doorCell 39 = .ok (.ireturn, 1) := by decide +kernel
theorem dX2_portDirection_0 : decode cX2_portDirection 0 = .ok (.iload_n 1, 1) := by decide +kernel
theorem dX2_portDirection_1 : decode cX2_portDirection 1 = .ok (.aload_n 0, 1) := by decide +kernel
theorem dX2_portDirection_2 : decode cX2_portDirection 2 = .ok (.getfield 15, 3) := by decide +kernel
theorem dX2_portDirection_5 : decode cX2_portDirection 5 = .ok (.if_icmp .ge 5, 3) := by decide +kernel
theorem dX2_portDirection_8 : decode cX2_portDirection 8 = .ok (.iconst 2, 1) := by decide +kernel
theorem dX2_portDirection_9 : decode cX2_portDirection 9 = .ok (.ireturn, 1) := by decide +kernel
theorem dX2_portDirection_10 : decode cX2_portDirection 10 = .ok (.iload_n 1, 1) := by decide +kernel
theorem dX2_portDirection_11 : decode cX2_portDirection 11 = .ok (.aload_n 0, 1) := by decide +kernel
theorem dX2_portDirection_12 : decode cX2_portDirection 12 = .ok (.getfield 15, 3) := by decide +kernel
theorem dX2_portDirection_15 : decode cX2_portDirection 15 = .ok (.aload_n 0, 1) := by decide +kernel
theorem dX2_portDirection_16 : decode cX2_portDirection 16 = .ok (.getfield 19, 3) := by decide +kernel
theorem dX2_portDirection_19 : decode cX2_portDirection 19 = .ok (.iadd, 1) := by decide +kernel
theorem dX2_portDirection_20 : decode cX2_portDirection 20 = .ok (.if_icmp .ge 5, 3) := by decide +kernel
theorem dX2_portDirection_23 : decode cX2_portDirection 23 = .ok (.iconst 3, 1) := by decide +kernel
theorem dX2_portDirection_24 : decode cX2_portDirection 24 = .ok (.ireturn, 1) := by decide +kernel
theorem dX2_portDirection_25 : decode cX2_portDirection 25 = .ok (.iload_n 1, 1) := by decide +kernel
theorem dX2_portDirection_26 : decode cX2_portDirection 26 = .ok (.iconst 2, 1) := by decide +kernel
theorem dX2_portDirection_27 : decode cX2_portDirection 27 = .ok (.aload_n 0, 1) := by decide +kernel
theorem dX2_portDirection_28 : decode cX2_portDirection 28 = .ok (.getfield 15, 3) := by decide +kernel
theorem dX2_portDirection_31 : decode cX2_portDirection 31 = .ok (.imul, 1) := by decide +kernel
theorem dX2_portDirection_32 : decode cX2_portDirection 32 = .ok (.aload_n 0, 1) := by decide +kernel
theorem dX2_portDirection_33 : decode cX2_portDirection 33 = .ok (.getfield 19, 3) := by decide +kernel
theorem dX2_portDirection_36 : decode cX2_portDirection 36 = .ok (.iadd, 1) := by decide +kernel
theorem dX2_portDirection_37 : decode cX2_portDirection 37 = .ok (.if_icmp .ge 7, 3) := by decide +kernel
theorem dX2_portDirection_40 : decode cX2_portDirection 40 = .ok (.iconst 0, 1) := by decide +kernel
theorem dX2_portDirection_41 : decode cX2_portDirection 41 = .ok (.goto 4, 3) := by decide +kernel
theorem dX2_portDirection_44 : decode cX2_portDirection 44 = .ok (.iconst 1, 1) := by decide +kernel
theorem dX2_portDirection_45 : decode cX2_portDirection 45 = .ok (.ireturn, 1) := by decide +kernel
set_option maxRecDepth 20000 in
theorem ggX2_portCell_X2_portDirection : GoodIn wsX2_portCell wsX2_portDirection := goodIn_r _ [7, 1, 2, 8, 9, 10] (by decide +kernel) (by decide +kernel)
set_option maxRecDepth 20000 in
theorem gX2_portCell_X2_portDirection : GoodIn wsX2_portCell (wsV RX2 46 RX2 yX2_portDirection wsX2_portDirection) := goodIn_app (goodIn_of _ (by decide +kernel)) ggX2_portCell_X2_portDirection
theorem dX2_portCell_0 : decode cX2_portCell 0 = .ok (.aload_n 0, 1) := by decide +kernel
theorem dX2_portCell_1 : decode cX2_portCell 1 = .ok (.iload_n 1, 1) := by decide +kernel
theorem dX2_portCell_2 : decode cX2_portCell 2 = .ok (.invokevirtual 46, 3) := by decide +kernel
theorem dX2_portCell_5 : decode cX2_portCell 5 = .ok (.tableswitch 76 0 3 #[52, 76, 31, 33], 31) := by decide +kernel
theorem dX2_portCell_36 : decode cX2_portCell 36 = .ok (.iload_n 1, 1) := by decide +kernel
theorem dX2_portCell_37 : decode cX2_portCell 37 = .ok (.ireturn, 1) := by decide +kernel
theorem dX2_portCell_38 : decode cX2_portCell 38 = .ok (.iload_n 1, 1) := by decide +kernel
theorem dX2_portCell_39 : decode cX2_portCell 39 = .ok (.aload_n 0, 1) := by decide +kernel
theorem dX2_portCell_40 : decode cX2_portCell 40 = .ok (.getfield 15, 3) := by decide +kernel
theorem dX2_portCell_43 : decode cX2_portCell 43 = .ok (.isub, 1) := by decide +kernel
theorem dX2_portCell_44 : decode cX2_portCell 44 = .ok (.aload_n 0, 1) := by decide +kernel
theorem dX2_portCell_45 : decode cX2_portCell 45 = .ok (.getfield 15, 3) := by decide +kernel
theorem dX2_portCell_48 : decode cX2_portCell 48 = .ok (.imul, 1) := by decide +kernel
theorem dX2_portCell_49 : decode cX2_portCell 49 = .ok (.aload_n 0, 1) := by decide +kernel
theorem dX2_portCell_50 : decode cX2_portCell 50 = .ok (.getfield 15, 3) := by decide +kernel
theorem dX2_portCell_53 : decode cX2_portCell 53 = .ok (.iadd, 1) := by decide +kernel
theorem dX2_portCell_54 : decode cX2_portCell 54 = .ok (.iconst 1, 1) := by decide +kernel
theorem dX2_portCell_55 : decode cX2_portCell 55 = .ok (.isub, 1) := by decide +kernel
theorem dX2_portCell_56 : decode cX2_portCell 56 = .ok (.ireturn, 1) := by decide +kernel
theorem dX2_portCell_57 : decode cX2_portCell 57 = .ok (.aload_n 0, 1) := by decide +kernel
theorem dX2_portCell_58 : decode cX2_portCell 58 = .ok (.getfield 19, 3) := by decide +kernel
theorem dX2_portCell_61 : decode cX2_portCell 61 = .ok (.iconst 1, 1) := by decide +kernel
theorem dX2_portCell_62 : decode cX2_portCell 62 = .ok (.isub, 1) := by decide +kernel
theorem dX2_portCell_63 : decode cX2_portCell 63 = .ok (.aload_n 0, 1) := by decide +kernel
theorem dX2_portCell_64 : decode cX2_portCell 64 = .ok (.getfield 15, 3) := by decide +kernel
theorem dX2_portCell_67 : decode cX2_portCell 67 = .ok (.imul, 1) := by decide +kernel
theorem dX2_portCell_68 : decode cX2_portCell 68 = .ok (.iload_n 1, 1) := by decide +kernel
theorem dX2_portCell_69 : decode cX2_portCell 69 = .ok (.iadd, 1) := by decide +kernel
theorem dX2_portCell_70 : decode cX2_portCell 70 = .ok (.aload_n 0, 1) := by decide +kernel
theorem dX2_portCell_71 : decode cX2_portCell 71 = .ok (.getfield 15, 3) := by decide +kernel
theorem dX2_portCell_74 : decode cX2_portCell 74 = .ok (.isub, 1) := by decide +kernel
theorem dX2_portCell_75 : decode cX2_portCell 75 = .ok (.aload_n 0, 1) := by decide +kernel
theorem dX2_portCell_76 : decode cX2_portCell 76 = .ok (.getfield 19, 3) := by decide +kernel
theorem dX2_portCell_79 : decode cX2_portCell 79 = .ok (.isub, 1) := by decide +kernel
theorem dX2_portCell_80 : decode cX2_portCell 80 = .ok (.ireturn, 1) := by decide +kernel
theorem dX2_portCell_81 : decode cX2_portCell 81 = .ok (.iload_n 1, 1) := by decide +kernel
theorem dX2_portCell_82 : decode cX2_portCell 82 = .ok (.iconst 2, 1) := by decide +kernel
theorem dX2_portCell_83 : decode cX2_portCell 83 = .ok (.aload_n 0, 1) := by decide +kernel
theorem dX2_portCell_84 : decode cX2_portCell 84 = .ok (.getfield 15, 3) := by decide +kernel
theorem dX2_portCell_87 : decode cX2_portCell 87 = .ok (.imul, 1) := by decide +kernel
theorem dX2_portCell_88 : decode cX2_portCell 88 = .ok (.isub, 1) := by decide +kernel
theorem dX2_portCell_89 : decode cX2_portCell 89 = .ok (.aload_n 0, 1) := by decide +kernel
theorem dX2_portCell_90 : decode cX2_portCell 90 = .ok (.getfield 19, 3) := by decide +kernel
theorem dX2_portCell_93 : decode cX2_portCell 93 = .ok (.isub, 1) := by decide +kernel
theorem dX2_portCell_94 : decode cX2_portCell 94 = .ok (.aload_n 0, 1) := by decide +kernel
theorem dX2_portCell_95 : decode cX2_portCell 95 = .ok (.getfield 15, 3) := by decide +kernel
theorem dX2_portCell_98 : decode cX2_portCell 98 = .ok (.imul, 1) := by decide +kernel
theorem dX2_portCell_99 : decode cX2_portCell 99 = .ok (.ireturn, 1) := by decide +kernel
theorem dX2_beyond_0 : decode cX2_beyond 0 = .ok (.aload_n 0, 1) := by decide +kernel
theorem dX2_beyond_1 : decode cX2_beyond 1 = .ok (.getfield 15, 3) := by decide +kernel
theorem dX2_beyond_4 : decode cX2_beyond 4 = .ok (.ifCond .le 12, 3) := by decide +kernel
theorem dX2_beyond_7 : decode cX2_beyond 7 = .ok (.iload_n 1, 1) := by decide +kernel
theorem dX2_beyond_8 : decode cX2_beyond 8 = .ok (.aload_n 0, 1) := by decide +kernel
theorem dX2_beyond_9 : decode cX2_beyond 9 = .ok (.getfield 15, 3) := by decide +kernel
theorem dX2_beyond_12 : decode cX2_beyond 12 = .ok (.irem, 1) := by decide +kernel
theorem dX2_beyond_13 : decode cX2_beyond 13 = .ok (.goto 4, 3) := by decide +kernel
theorem dX2_beyond_16 : decode cX2_beyond 16 = .ok (.iconst 0, 1) := by decide +kernel
theorem dX2_beyond_17 : decode cX2_beyond 17 = .ok (.istore_n 3, 1) := by decide +kernel
theorem dX2_beyond_18 : decode cX2_beyond 18 = .ok (.aload_n 0, 1) := by decide +kernel
theorem dX2_beyond_19 : decode cX2_beyond 19 = .ok (.getfield 15, 3) := by decide +kernel
theorem dX2_beyond_22 : decode cX2_beyond 22 = .ok (.ifCond .le 12, 3) := by decide +kernel
theorem dX2_beyond_25 : decode cX2_beyond 25 = .ok (.iload_n 1, 1) := by decide +kernel
theorem dX2_beyond_26 : decode cX2_beyond 26 = .ok (.aload_n 0, 1) := by decide +kernel
theorem dX2_beyond_27 : decode cX2_beyond 27 = .ok (.getfield 15, 3) := by decide +kernel
theorem dX2_beyond_30 : decode cX2_beyond 30 = .ok (.idiv, 1) := by decide +kernel
theorem dX2_beyond_31 : decode cX2_beyond 31 = .ok (.goto 4, 3) := by decide +kernel
theorem dX2_beyond_34 : decode cX2_beyond 34 = .ok (.iconst 0, 1) := by decide +kernel
theorem dX2_beyond_35 : decode cX2_beyond 35 = .ok (.istore 4, 2) := by decide +kernel
theorem dX2_beyond_37 : decode cX2_beyond 37 = .ok (.iload_n 2, 1) := by decide +kernel
theorem dX2_beyond_38 : decode cX2_beyond 38 = .ok (.tableswitch 104 0 2 #[26, 44, 70], 26) := by decide +kernel
theorem dX2_beyond_64 : decode cX2_beyond 64 = .ok (.iload 4, 2) := by decide +kernel
theorem dX2_beyond_66 : decode cX2_beyond 66 = .ok (.ifCond .le 12, 3) := by decide +kernel
theorem dX2_beyond_69 : decode cX2_beyond 69 = .ok (.iload_n 1, 1) := by decide +kernel
theorem dX2_beyond_70 : decode cX2_beyond 70 = .ok (.aload_n 0, 1) := by decide +kernel
theorem dX2_beyond_71 : decode cX2_beyond 71 = .ok (.getfield 15, 3) := by decide +kernel
theorem dX2_beyond_74 : decode cX2_beyond 74 = .ok (.isub, 1) := by decide +kernel
theorem dX2_beyond_75 : decode cX2_beyond 75 = .ok (.goto 6, 3) := by decide +kernel
theorem dX2_beyond_78 : decode cX2_beyond 78 = .ok (.iload_n 3, 1) := by decide +kernel
theorem dX2_beyond_79 : decode cX2_beyond 79 = .ok (.iconst (-1), 1) := by decide +kernel
theorem dX2_beyond_80 : decode cX2_beyond 80 = .ok (.ixor, 1) := by decide +kernel
theorem dX2_beyond_81 : decode cX2_beyond 81 = .ok (.ireturn, 1) := by decide +kernel
theorem dX2_beyond_82 : decode cX2_beyond 82 = .ok (.iload_n 3, 1) := by decide +kernel
theorem dX2_beyond_83 : decode cX2_beyond 83 = .ok (.aload_n 0, 1) := by decide +kernel
theorem dX2_beyond_84 : decode cX2_beyond 84 = .ok (.getfield 15, 3) := by decide +kernel
theorem dX2_beyond_87 : decode cX2_beyond 87 = .ok (.iconst 1, 1) := by decide +kernel
theorem dX2_beyond_88 : decode cX2_beyond 88 = .ok (.isub, 1) := by decide +kernel
theorem dX2_beyond_89 : decode cX2_beyond 89 = .ok (.if_icmp .ge 9, 3) := by decide +kernel
theorem dX2_beyond_92 : decode cX2_beyond 92 = .ok (.iload_n 1, 1) := by decide +kernel
theorem dX2_beyond_93 : decode cX2_beyond 93 = .ok (.iconst 1, 1) := by decide +kernel
theorem dX2_beyond_94 : decode cX2_beyond 94 = .ok (.iadd, 1) := by decide +kernel
theorem dX2_beyond_95 : decode cX2_beyond 95 = .ok (.goto 12, 3) := by decide +kernel
theorem dX2_beyond_98 : decode cX2_beyond 98 = .ok (.aload_n 0, 1) := by decide +kernel
theorem dX2_beyond_99 : decode cX2_beyond 99 = .ok (.getfield 15, 3) := by decide +kernel
theorem dX2_beyond_102 : decode cX2_beyond 102 = .ok (.iload 4, 2) := by decide +kernel
theorem dX2_beyond_104 : decode cX2_beyond 104 = .ok (.iadd, 1) := by decide +kernel
theorem dX2_beyond_105 : decode cX2_beyond 105 = .ok (.iconst (-1), 1) := by decide +kernel
theorem dX2_beyond_106 : decode cX2_beyond 106 = .ok (.ixor, 1) := by decide +kernel
theorem dX2_beyond_107 : decode cX2_beyond 107 = .ok (.ireturn, 1) := by decide +kernel
theorem dX2_beyond_108 : decode cX2_beyond 108 = .ok (.iload 4, 2) := by decide +kernel
theorem dX2_beyond_110 : decode cX2_beyond 110 = .ok (.aload_n 0, 1) := by decide +kernel
theorem dX2_beyond_111 : decode cX2_beyond 111 = .ok (.getfield 19, 3) := by decide +kernel
theorem dX2_beyond_114 : decode cX2_beyond 114 = .ok (.iconst 1, 1) := by decide +kernel
theorem dX2_beyond_115 : decode cX2_beyond 115 = .ok (.isub, 1) := by decide +kernel
end
section
theorem dX2_beyond_116 : decode cX2_beyond 116 = .ok (.if_icmp .ge 12, 3) := by decide +kernel
theorem dX2_beyond_119 : decode cX2_beyond 119 = .ok (.iload_n 1, 1) := by decide +kernel
theorem dX2_beyond_120 : decode cX2_beyond 120 = .ok (.aload_n 0, 1) := by decide +kernel
theorem dX2_beyond_121 : decode cX2_beyond 121 = .ok (.getfield 15, 3) := by decide +kernel
theorem dX2_beyond_124 : decode cX2_beyond 124 = .ok (.iadd, 1) := by decide +kernel
theorem dX2_beyond_125 : decode cX2_beyond 125 = .ok (.goto 16, 3) := by decide +kernel
theorem dX2_beyond_128 : decode cX2_beyond 128 = .ok (.aload_n 0, 1) := by decide +kernel
theorem dX2_beyond_129 : decode cX2_beyond 129 = .ok (.getfield 15, 3) := by decide +kernel
theorem dX2_beyond_132 : decode cX2_beyond 132 = .ok (.aload_n 0, 1) := by decide +kernel
theorem dX2_beyond_133 : decode cX2_beyond 133 = .ok (.getfield 19, 3) := by decide +kernel
theorem dX2_beyond_136 : decode cX2_beyond 136 = .ok (.iadd, 1) := by decide +kernel
theorem dX2_beyond_137 : decode cX2_beyond 137 = .ok (.iload_n 3, 1) := by decide +kernel
theorem dX2_beyond_138 : decode cX2_beyond 138 = .ok (.iadd, 1) := by decide +kernel
theorem dX2_beyond_139 : decode cX2_beyond 139 = .ok (.iconst (-1), 1) := by decide +kernel
theorem dX2_beyond_140 : decode cX2_beyond 140 = .ok (.ixor, 1) := by decide +kernel
theorem dX2_beyond_141 : decode cX2_beyond 141 = .ok (.ireturn, 1) := by decide +kernel
theorem dX2_beyond_142 : decode cX2_beyond 142 = .ok (.iload_n 3, 1) := by decide +kernel
theorem dX2_beyond_143 : decode cX2_beyond 143 = .ok (.ifCond .le 9, 3) := by decide +kernel
theorem dX2_beyond_146 : decode cX2_beyond 146 = .ok (.iload_n 1, 1) := by decide +kernel
theorem dX2_beyond_147 : decode cX2_beyond 147 = .ok (.iconst 1, 1) := by decide +kernel
theorem dX2_beyond_148 : decode cX2_beyond 148 = .ok (.isub, 1) := by decide +kernel
theorem dX2_beyond_149 : decode cX2_beyond 149 = .ok (.goto 19, 3) := by decide +kernel
theorem dX2_beyond_152 : decode cX2_beyond 152 = .ok (.iconst 2, 1) := by decide +kernel
theorem dX2_beyond_153 : decode cX2_beyond 153 = .ok (.aload_n 0, 1) := by decide +kernel
theorem dX2_beyond_154 : decode cX2_beyond 154 = .ok (.getfield 15, 3) := by decide +kernel
theorem dX2_beyond_157 : decode cX2_beyond 157 = .ok (.imul, 1) := by decide +kernel
theorem dX2_beyond_158 : decode cX2_beyond 158 = .ok (.aload_n 0, 1) := by decide +kernel
theorem dX2_beyond_159 : decode cX2_beyond 159 = .ok (.getfield 19, 3) := by decide +kernel
theorem dX2_beyond_162 : decode cX2_beyond 162 = .ok (.iadd, 1) := by decide +kernel
theorem dX2_beyond_163 : decode cX2_beyond 163 = .ok (.iload 4, 2) := by decide +kernel
theorem dX2_beyond_165 : decode cX2_beyond 165 = .ok (.iadd, 1) := by decide +kernel
theorem dX2_beyond_166 : decode cX2_beyond 166 = .ok (.iconst (-1), 1) := by decide +kernel
theorem dX2_beyond_167 : decode cX2_beyond 167 = .ok (.ixor, 1) := by decide +kernel
theorem dX2_beyond_168 : decode cX2_beyond 168 = .ok (.ireturn, 1) := by decide +kernel
theorem dX2_become_0 : decode cX2_become 0 = .ok (.aload_n 0, 1) := by decide +kernel
theorem dX2_become_1 : decode cX2_become 1 = .ok (.aload_n 1, 1) := by decide +kernel
theorem dX2_become_2 : decode cX2_become 2 = .ok (.getfield 15, 3) := by decide +kernel
theorem dX2_become_5 : decode cX2_become 5 = .ok (.putfield 15, 3) := by decide +kernel
theorem dX2_become_8 : decode cX2_become 8 = .ok (.aload_n 0, 1) := by decide +kernel
theorem dX2_become_9 : decode cX2_become 9 = .ok (.aload_n 1, 1) := by decide +kernel
theorem dX2_become_10 : decode cX2_become 10 = .ok (.getfield 19, 3) := by decide +kernel
theorem dX2_become_13 : decode cX2_become 13 = .ok (.putfield 19, 3) := by decide +kernel
theorem dX2_become_16 : decode cX2_become 16 = .ok (.aload_n 1, 1) := by decide +kernel
theorem dX2_become_17 : decode cX2_become 17 = .ok (.getfield 9, 3) := by decide +kernel
theorem dX2_become_20 : decode cX2_become 20 = .ok (.iconst 0, 1) := by decide +kernel
theorem dX2_become_21 : decode cX2_become 21 = .ok (.aload_n 0, 1) := by decide +kernel
theorem dX2_become_22 : decode cX2_become 22 = .ok (.getfield 9, 3) := by decide +kernel
theorem dX2_become_25 : decode cX2_become 25 = .ok (.iconst 0, 1) := by decide +kernel
theorem dX2_become_26 : decode cX2_become 26 = .ok (.bipush 20, 2) := by decide +kernel
theorem dX2_become_28 : decode cX2_become 28 = .ok (.invokestatic 25, 3) := by decide +kernel
theorem dX2_become_31 : decode cX2_become 31 = .ok (.return_, 1) := by decide +kernel
set_option maxRecDepth 20000 in
theorem ggX2_becomeTurned_X2_kindAt : GoodIn wsX2_becomeTurned wsX2_kindAt := goodIn_r _ [7, 8, 9, 10, 11, 6, 12, 2, 1, 20, 21, 22] (by decide +kernel) (by decide +kernel)
set_option maxRecDepth 20000 in
theorem gX2_becomeTurned_X2_kindAt : GoodIn wsX2_becomeTurned (wsV RX2 38 RX2 yX2_kindAt wsX2_kindAt) := goodIn_app (goodIn_of _ (by decide +kernel)) ggX2_becomeTurned_X2_kindAt
set_option maxRecDepth 20000 in
theorem ggX2_becomeTurned_X2_turnedKind : GoodIn wsX2_becomeTurned wsX2_turnedKind := goodIn_r _ [15] (by decide +kernel) (by decide +kernel)
set_option maxRecDepth 20000 in
theorem gX2_becomeTurned_X2_turnedKind : GoodIn wsX2_becomeTurned (va_wsS RX2 49 yX2_turnedKind wsX2_turnedKind) := goodIn_app (goodIn_of _ (by decide +kernel)) ggX2_becomeTurned_X2_turnedKind
set_option maxRecDepth 20000 in
theorem ggX2_becomeTurned_X2_tell : GoodIn wsX2_becomeTurned wsX2_tell := goodIn_r _ [19, 8, 9, 10, 11, 6, 12, 2, 1, 20, 21, 22] (by decide +kernel) (by decide +kernel)
set_option maxRecDepth 20000 in
theorem gX2_becomeTurned_X2_tell : GoodIn wsX2_becomeTurned (wsV RX2 52 RX2 yX2_tell wsX2_tell) := goodIn_app (goodIn_of _ (by decide +kernel)) ggX2_becomeTurned_X2_tell
theorem dX2_becomeTurned_0 : decode cX2_becomeTurned 0 = .ok (.aload_n 0, 1) := by decide +kernel
theorem dX2_becomeTurned_1 : decode cX2_becomeTurned 1 = .ok (.aload_n 1, 1) := by decide +kernel
theorem dX2_becomeTurned_2 : decode cX2_becomeTurned 2 = .ok (.getfield 19, 3) := by decide +kernel
theorem dX2_becomeTurned_5 : decode cX2_becomeTurned 5 = .ok (.putfield 15, 3) := by decide +kernel
theorem dX2_becomeTurned_8 : decode cX2_becomeTurned 8 = .ok (.aload_n 0, 1) := by decide +kernel
theorem dX2_becomeTurned_9 : decode cX2_becomeTurned 9 = .ok (.aload_n 1, 1) := by decide +kernel
theorem dX2_becomeTurned_10 : decode cX2_becomeTurned 10 = .ok (.getfield 15, 3) := by decide +kernel
theorem dX2_becomeTurned_13 : decode cX2_becomeTurned 13 = .ok (.putfield 19, 3) := by decide +kernel
theorem dX2_becomeTurned_16 : decode cX2_becomeTurned 16 = .ok (.iconst 0, 1) := by decide +kernel
theorem dX2_becomeTurned_17 : decode cX2_becomeTurned 17 = .ok (.istore_n 2, 1) := by decide +kernel
theorem dX2_becomeTurned_18 : decode cX2_becomeTurned 18 = .ok (.iload_n 2, 1) := by decide +kernel
theorem dX2_becomeTurned_19 : decode cX2_becomeTurned 19 = .ok (.aload_n 1, 1) := by decide +kernel
theorem dX2_becomeTurned_20 : decode cX2_becomeTurned 20 = .ok (.getfield 19, 3) := by decide +kernel
theorem dX2_becomeTurned_23 : decode cX2_becomeTurned 23 = .ok (.if_icmp .ge 63, 3) := by decide +kernel
theorem dX2_becomeTurned_26 : decode cX2_becomeTurned 26 = .ok (.iconst 0, 1) := by decide +kernel
theorem dX2_becomeTurned_27 : decode cX2_becomeTurned 27 = .ok (.istore_n 3, 1) := by decide +kernel
theorem dX2_becomeTurned_28 : decode cX2_becomeTurned 28 = .ok (.iload_n 3, 1) := by decide +kernel
theorem dX2_becomeTurned_29 : decode cX2_becomeTurned 29 = .ok (.aload_n 1, 1) := by decide +kernel
theorem dX2_becomeTurned_30 : decode cX2_becomeTurned 30 = .ok (.getfield 15, 3) := by decide +kernel
theorem dX2_becomeTurned_33 : decode cX2_becomeTurned 33 = .ok (.if_icmp .ge 47, 3) := by decide +kernel
theorem dX2_becomeTurned_36 : decode cX2_becomeTurned 36 = .ok (.aload_n 1, 1) := by decide +kernel
theorem dX2_becomeTurned_37 : decode cX2_becomeTurned 37 = .ok (.iload_n 2, 1) := by decide +kernel
theorem dX2_becomeTurned_38 : decode cX2_becomeTurned 38 = .ok (.aload_n 1, 1) := by decide +kernel
theorem dX2_becomeTurned_39 : decode cX2_becomeTurned 39 = .ok (.getfield 15, 3) := by decide +kernel
theorem dX2_becomeTurned_42 : decode cX2_becomeTurned 42 = .ok (.imul, 1) := by decide +kernel
theorem dX2_becomeTurned_43 : decode cX2_becomeTurned 43 = .ok (.iload_n 3, 1) := by decide +kernel
theorem dX2_becomeTurned_44 : decode cX2_becomeTurned 44 = .ok (.iadd, 1) := by decide +kernel
theorem dX2_becomeTurned_45 : decode cX2_becomeTurned 45 = .ok (.invokevirtual 38, 3) := by decide +kernel
theorem dX2_becomeTurned_48 : decode cX2_becomeTurned 48 = .ok (.istore 4, 2) := by decide +kernel
theorem dX2_becomeTurned_50 : decode cX2_becomeTurned 50 = .ok (.aload_n 0, 1) := by decide +kernel
theorem dX2_becomeTurned_51 : decode cX2_becomeTurned 51 = .ok (.iload_n 3, 1) := by decide +kernel
theorem dX2_becomeTurned_52 : decode cX2_becomeTurned 52 = .ok (.aload_n 0, 1) := by decide +kernel
theorem dX2_becomeTurned_53 : decode cX2_becomeTurned 53 = .ok (.getfield 15, 3) := by decide +kernel
theorem dX2_becomeTurned_56 : decode cX2_becomeTurned 56 = .ok (.imul, 1) := by decide +kernel
theorem dX2_becomeTurned_57 : decode cX2_becomeTurned 57 = .ok (.aload_n 0, 1) := by decide +kernel
theorem dX2_becomeTurned_58 : decode cX2_becomeTurned 58 = .ok (.getfield 15, 3) := by decide +kernel
theorem dX2_becomeTurned_61 : decode cX2_becomeTurned 61 = .ok (.iadd, 1) := by decide +kernel
theorem dX2_becomeTurned_62 : decode cX2_becomeTurned 62 = .ok (.iconst 1, 1) := by decide +kernel
theorem dX2_becomeTurned_63 : decode cX2_becomeTurned 63 = .ok (.isub, 1) := by decide +kernel
theorem dX2_becomeTurned_64 : decode cX2_becomeTurned 64 = .ok (.iload_n 2, 1) := by decide +kernel
theorem dX2_becomeTurned_65 : decode cX2_becomeTurned 65 = .ok (.isub, 1) := by decide +kernel
theorem dX2_becomeTurned_66 : decode cX2_becomeTurned 66 = .ok (.iload 4, 2) := by decide +kernel
theorem dX2_becomeTurned_68 : decode cX2_becomeTurned 68 = .ok (.invokestatic 49, 3) := by decide +kernel
theorem dX2_becomeTurned_71 : decode cX2_becomeTurned 71 = .ok (.invokevirtual 52, 3) := by decide +kernel
theorem dX2_becomeTurned_74 : decode cX2_becomeTurned 74 = .ok (.iinc 3 1, 3) := by decide +kernel
theorem dX2_becomeTurned_77 : decode cX2_becomeTurned 77 = .ok (.goto (-49), 3) := by decide +kernel
theorem dX2_becomeTurned_80 : decode cX2_becomeTurned 80 = .ok (.iinc 2 1, 3) := by decide +kernel
theorem dX2_becomeTurned_83 : decode cX2_becomeTurned 83 = .ok (.goto (-65), 3) := by decide +kernel
theorem dX2_becomeTurned_86 : decode cX2_becomeTurned 86 = .ok (.return_, 1) := by decide +kernel
theorem dX2_turnedKind_0 : decode cX2_turnedKind 0 = .ok (.iload_n 0, 1) := by decide +kernel
theorem dX2_turnedKind_1 : decode cX2_turnedKind 1 = .ok (.tableswitch 39 1 4 #[31, 33, 35, 37], 31) := by decide +kernel
theorem dX2_turnedKind_32 : decode cX2_turnedKind 32 = .ok (.iconst 2, 1) := by decide +kernel
theorem dX2_turnedKind_33 : decode cX2_turnedKind 33 = .ok (.ireturn, 1) := by decide +kernel
theorem dX2_turnedKind_34 : decode cX2_turnedKind 34 = .ok (.iconst 1, 1) := by decide +kernel
theorem dX2_turnedKind_35 : decode cX2_turnedKind 35 = .ok (.ireturn, 1) := by decide +kernel
theorem dX2_turnedKind_36 : decode cX2_turnedKind 36 = .ok (.iconst 4, 1) := by decide +kernel
theorem dX2_turnedKind_37 : decode cX2_turnedKind 37 = .ok (.ireturn, 1) := by decide +kernel
theorem dX2_turnedKind_38 : decode cX2_turnedKind 38 = .ok (.iconst 3, 1) := by decide +kernel
theorem dX2_turnedKind_39 : decode cX2_turnedKind 39 = .ok (.ireturn, 1) := by decide +kernel
theorem dX2_turnedKind_40 : decode cX2_turnedKind 40 = .ok (.iload_n 0, 1) := by decide +kernel
theorem dX2_turnedKind_41 : decode cX2_turnedKind 41 = .ok (.ireturn, 1) := by decide +kernel
theorem dX2_empty_0 : decode cX2_empty 0 = .ok (.aload_n 0, 1) := by decide +kernel
theorem dX2_empty_1 : decode cX2_empty 1 = .ok (.iconst 0, 1) := by decide +kernel
theorem dX2_empty_2 : decode cX2_empty 2 = .ok (.putfield 15, 3) := by decide +kernel
theorem dX2_empty_5 : decode cX2_empty 5 = .ok (.aload_n 0, 1) := by decide +kernel
theorem dX2_empty_6 : decode cX2_empty 6 = .ok (.iconst 0, 1) := by decide +kernel
theorem dX2_empty_7 : decode cX2_empty 7 = .ok (.putfield 19, 3) := by decide +kernel
theorem dX2_empty_10 : decode cX2_empty 10 = .ok (.return_, 1) := by decide +kernel
set_option maxRecDepth 20000 in
theorem ggX2_addRow_X2_tell : GoodIn wsX2_addRow wsX2_tell := goodIn_r _ [7, 8, 9, 10, 11, 6, 12, 2, 1, 13, 14, 15] (by decide +kernel) (by decide +kernel)
set_option maxRecDepth 20000 in
theorem gX2_addRow_X2_tell : GoodIn wsX2_addRow (wsV RX2 52 RX2 yX2_tell wsX2_tell) := goodIn_app (goodIn_of _ (by decide +kernel)) ggX2_addRow_X2_tell
theorem dX2_addRow_0 : decode cX2_addRow 0 = .ok (.aload_n 0, 1) := by decide +kernel
theorem dX2_addRow_1 : decode cX2_addRow 1 = .ok (.getfield 19, 3) := by decide +kernel
theorem dX2_addRow_4 : decode cX2_addRow 4 = .ok (.ifCond .ne 21, 3) := by decide +kernel
theorem dX2_addRow_7 : decode cX2_addRow 7 = .ok (.iload_n 1, 1) := by decide +kernel
theorem dX2_addRow_8 : decode cX2_addRow 8 = .ok (.iconst 2, 1) := by decide +kernel
theorem dX2_addRow_9 : decode cX2_addRow 9 = .ok (.if_icmp .lt 12, 3) := by decide +kernel
theorem dX2_addRow_12 : decode cX2_addRow 12 = .ok (.iload_n 1, 1) := by decide +kernel
theorem dX2_addRow_13 : decode cX2_addRow 13 = .ok (.iconst 5, 1) := by decide +kernel
theorem dX2_addRow_14 : decode cX2_addRow 14 = .ok (.if_icmp .gt 7, 3) := by decide +kernel
theorem dX2_addRow_17 : decode cX2_addRow 17 = .ok (.iconst 1, 1) := by decide +kernel
theorem dX2_addRow_18 : decode cX2_addRow 18 = .ok (.goto 20, 3) := by decide +kernel
theorem dX2_addRow_21 : decode cX2_addRow 21 = .ok (.iconst 0, 1) := by decide +kernel
theorem dX2_addRow_22 : decode cX2_addRow 22 = .ok (.goto 16, 3) := by decide +kernel
theorem dX2_addRow_25 : decode cX2_addRow 25 = .ok (.iload_n 1, 1) := by decide +kernel
theorem dX2_addRow_26 : decode cX2_addRow 26 = .ok (.aload_n 0, 1) := by decide +kernel
theorem dX2_addRow_27 : decode cX2_addRow 27 = .ok (.getfield 15, 3) := by decide +kernel
theorem dX2_addRow_30 : decode cX2_addRow 30 = .ok (.if_icmp .ne 7, 3) := by decide +kernel
theorem dX2_addRow_33 : decode cX2_addRow 33 = .ok (.iconst 1, 1) := by decide +kernel
theorem dX2_addRow_34 : decode cX2_addRow 34 = .ok (.goto 4, 3) := by decide +kernel
theorem dX2_addRow_37 : decode cX2_addRow 37 = .ok (.iconst 0, 1) := by decide +kernel
theorem dX2_addRow_38 : decode cX2_addRow 38 = .ok (.istore_n 2, 1) := by decide +kernel
theorem dX2_addRow_39 : decode cX2_addRow 39 = .ok (.iload_n 2, 1) := by decide +kernel
theorem dX2_addRow_40 : decode cX2_addRow 40 = .ok (.ifCond .eq 11, 3) := by decide +kernel
theorem dX2_addRow_43 : decode cX2_addRow 43 = .ok (.aload_n 0, 1) := by decide +kernel
theorem dX2_addRow_44 : decode cX2_addRow 44 = .ok (.getfield 19, 3) := by decide +kernel
theorem dX2_addRow_47 : decode cX2_addRow 47 = .ok (.iconst 4, 1) := by decide +kernel
theorem dX2_addRow_48 : decode cX2_addRow 48 = .ok (.if_icmp .lt 5, 3) := by decide +kernel
theorem dX2_addRow_51 : decode cX2_addRow 51 = .ok (.iconst 0, 1) := by decide +kernel
theorem dX2_addRow_52 : decode cX2_addRow 52 = .ok (.ireturn, 1) := by decide +kernel
theorem dX2_addRow_53 : decode cX2_addRow 53 = .ok (.aload_n 0, 1) := by decide +kernel
theorem dX2_addRow_54 : decode cX2_addRow 54 = .ok (.iload_n 1, 1) := by decide +kernel
theorem dX2_addRow_55 : decode cX2_addRow 55 = .ok (.putfield 15, 3) := by decide +kernel
theorem dX2_addRow_58 : decode cX2_addRow 58 = .ok (.aload_n 0, 1) := by decide +kernel
theorem dX2_addRow_59 : decode cX2_addRow 59 = .ok (.dup, 1) := by decide +kernel
theorem dX2_addRow_60 : decode cX2_addRow 60 = .ok (.getfield 19, 3) := by decide +kernel
theorem dX2_addRow_63 : decode cX2_addRow 63 = .ok (.iconst 1, 1) := by decide +kernel
theorem dX2_addRow_64 : decode cX2_addRow 64 = .ok (.iadd, 1) := by decide +kernel
theorem dX2_addRow_65 : decode cX2_addRow 65 = .ok (.putfield 19, 3) := by decide +kernel
theorem dX2_addRow_68 : decode cX2_addRow 68 = .ok (.iconst 0, 1) := by decide +kernel
theorem dX2_addRow_69 : decode cX2_addRow 69 = .ok (.istore_n 3, 1) := by decide +kernel
theorem dX2_addRow_70 : decode cX2_addRow 70 = .ok (.iload_n 3, 1) := by decide +kernel
theorem dX2_addRow_71 : decode cX2_addRow 71 = .ok (.iload_n 1, 1) := by decide +kernel
theorem dX2_addRow_72 : decode cX2_addRow 72 = .ok (.if_icmp .ge 27, 3) := by decide +kernel
theorem dX2_addRow_75 : decode cX2_addRow 75 = .ok (.aload_n 0, 1) := by decide +kernel
theorem dX2_addRow_76 : decode cX2_addRow 76 = .ok (.aload_n 0, 1) := by decide +kernel
theorem dX2_addRow_77 : decode cX2_addRow 77 = .ok (.getfield 19, 3) := by decide +kernel
theorem dX2_addRow_80 : decode cX2_addRow 80 = .ok (.iconst 1, 1) := by decide +kernel
theorem dX2_addRow_81 : decode cX2_addRow 81 = .ok (.isub, 1) := by decide +kernel
theorem dX2_addRow_82 : decode cX2_addRow 82 = .ok (.aload_n 0, 1) := by decide +kernel
theorem dX2_addRow_83 : decode cX2_addRow 83 = .ok (.getfield 15, 3) := by decide +kernel
theorem dX2_addRow_86 : decode cX2_addRow 86 = .ok (.imul, 1) := by decide +kernel
theorem dX2_addRow_87 : decode cX2_addRow 87 = .ok (.iload_n 3, 1) := by decide +kernel
theorem dX2_addRow_88 : decode cX2_addRow 88 = .ok (.iadd, 1) := by decide +kernel
theorem dX2_addRow_89 : decode cX2_addRow 89 = .ok (.iconst 0, 1) := by decide +kernel
theorem dX2_addRow_90 : decode cX2_addRow 90 = .ok (.invokevirtual 52, 3) := by decide +kernel
theorem dX2_addRow_93 : decode cX2_addRow 93 = .ok (.iinc 3 1, 3) := by decide +kernel
theorem dX2_addRow_96 : decode cX2_addRow 96 = .ok (.goto (-26), 3) := by decide +kernel
theorem dX2_addRow_99 : decode cX2_addRow 99 = .ok (.iconst 1, 1) := by decide +kernel
theorem dX2_addRow_100 : decode cX2_addRow 100 = .ok (.ireturn, 1) := by decide +kernel
theorem dX3_init_0 : decode cX3_init 0 = .ok (.aload_n 0, 1) := by decide +kernel
theorem dX3_init_1 : decode cX3_init 1 = .ok (.invokespecial 3, 3) := by decide +kernel
theorem dX3_init_4 : decode cX3_init 4 = .ok (.aload_n 0, 1) := by decide +kernel
theorem dX3_init_5 : decode cX3_init 5 = .ok (.bipush 60, 2) := by decide +kernel
theorem dX3_init_7 : decode cX3_init 7 = .ok (.newarray .int, 2) := by decide +kernel
theorem dX3_init_9 : decode cX3_init 9 = .ok (.putfield 9, 3) := by decide +kernel
theorem dX3_init_12 : decode cX3_init 12 = .ok (.aload_n 0, 1) := by decide +kernel
theorem dX3_init_13 : decode cX3_init 13 = .ok (.iconst 0, 1) := by decide +kernel
theorem dX3_init_14 : decode cX3_init 14 = .ok (.putfield 15, 3) := by decide +kernel
theorem dX3_init_17 : decode cX3_init 17 = .ok (.return_, 1) := by decide +kernel
theorem dX3_append_0 : decode cX3_append 0 = .ok (.aload_n 0, 1) := by decide +kernel
theorem dX3_append_1 : decode cX3_append 1 = .ok (.getfield 15, 3) := by decide +kernel
theorem dX3_append_4 : decode cX3_append 4 = .ok (.bipush 60, 2) := by decide +kernel
theorem dX3_append_6 : decode cX3_append 6 = .ok (.if_icmp .lt 6, 3) := by decide +kernel
theorem dX3_append_9 : decode cX3_append 9 = .ok (.bipush (-3), 2) := by decide +kernel
theorem dX3_append_11 : decode cX3_append 11 = .ok (.ireturn, 1) := by decide +kernel
theorem dX3_append_12 : decode cX3_append 12 = .ok (.aload_n 0, 1) := by decide +kernel
theorem dX3_append_13 : decode cX3_append 13 = .ok (.getfield 9, 3) := by decide +kernel
theorem dX3_append_16 : decode cX3_append 16 = .ok (.aload_n 0, 1) := by decide +kernel
theorem dX3_append_17 : decode cX3_append 17 = .ok (.getfield 15, 3) := by decide +kernel
theorem dX3_append_20 : decode cX3_append 20 = .ok (.iload_n 1, 1) := by decide +kernel
theorem dX3_append_21 : decode cX3_append 21 = .ok (.iastore, 1) := by decide +kernel
theorem dX3_append_22 : decode cX3_append 22 = .ok (.aload_n 0, 1) := by decide +kernel
theorem dX3_append_23 : decode cX3_append 23 = .ok (.dup, 1) := by decide +kernel
theorem dX3_append_24 : decode cX3_append 24 = .ok (.getfield 15, 3) := by decide +kernel
theorem dX3_append_27 : decode cX3_append 27 = .ok (.iconst 1, 1) := by decide +kernel
theorem dX3_append_28 : decode cX3_append 28 = .ok (.iadd, 1) := by decide +kernel
theorem dX3_append_29 : decode cX3_append 29 = .ok (.putfield 15, 3) := by decide +kernel
theorem dX3_append_32 : decode cX3_append 32 = .ok (.aload_n 0, 1) := by decide +kernel
theorem dX3_append_33 : decode cX3_append 33 = .ok (.getfield 15, 3) := by decide +kernel
theorem dX3_append_36 : decode cX3_append 36 = .ok (.ireturn, 1) := by decide +kernel
theorem dX3_clear_0 : decode cX3_clear 0 = .ok (.aload_n 0, 1) := by decide +kernel
theorem dX3_clear_1 : decode cX3_clear 1 = .ok (.getfield 15, 3) := by decide +kernel
theorem dX3_clear_4 : decode cX3_clear 4 = .ok (.istore_n 1, 1) := by decide +kernel
theorem dX3_clear_5 : decode cX3_clear 5 = .ok (.aload_n 0, 1) := by decide +kernel
theorem dX3_clear_6 : decode cX3_clear 6 = .ok (.iconst 0, 1) := by decide +kernel
theorem dX3_clear_7 : decode cX3_clear 7 = .ok (.putfield 15, 3) := by decide +kernel
theorem dX3_clear_10 : decode cX3_clear 10 = .ok (.iload_n 1, 1) := by decide +kernel
theorem dX3_clear_11 : decode cX3_clear 11 = .ok (.ireturn, 1) := by decide +kernel
set_option maxRecDepth 20000 in
theorem ggX3_readInto_X2_empty : GoodIn wsX3_readInto wsX2_empty := goodIn_r _ [6, 7, 8, 141, 142, 143] (by decide +kernel) (by decide +kernel)
set_option maxRecDepth 20000 in
theorem gX3_readInto_X2_empty : GoodIn wsX3_readInto (wsV RX3 19 RX2 yX2_empty wsX2_empty) := goodIn_app (goodIn_of _ (by decide +kernel)) ggX3_readInto_X2_empty
set_option maxRecDepth 20000 in
theorem ggX3_readInto_X3_endOfItem : GoodIn wsX3_readInto wsX3_endOfItem := goodIn_r _ [13, 1, 14, 15, 16, 12, 17, 18, 139, 140] (by decide +kernel) (by decide +kernel)
set_option maxRecDepth 20000 in
theorem gX3_readInto_X3_endOfItem : GoodIn wsX3_readInto (wsV RX3 24 RX3 yX3_endOfItem wsX3_endOfItem) := goodIn_app (goodIn_of _ (by decide +kernel)) ggX3_readInto_X3_endOfItem
set_option maxRecDepth 20000 in
theorem ggX3_readInto_X3_readRow : GoodIn wsX3_readInto wsX3_readRow := goodIn_r _ [22, 1, 14, 15, 16, 12, 17, 18, 23, 24, 25, 5, 26, 8, 7, 27, 28, 29, 30, 31, 32, 33, 34, 35, 36, 37, 38, 39, 40, 41, 42, 43, 44, 45, 46, 47, 48, 49, 50, 51, 52, 53, 54, 55, 56, 57, 58, 59, 60, 61, 62, 63, 64, 65, 66, 67, 68, 69, 70, 71, 72, 73, 74, 75, 76, 77, 78, 79, 80, 81, 82, 83, 84, 85, 86, 87, 88, 89, 90, 91, 92, 93, 94, 95, 96, 97, 98, 99, 100, 101, 102, 103, 104, 105, 106, 107, 108, 109, 110, 111, 112, 113, 114, 115, 116, 117, 118, 119, 120, 121, 122, 123, 124, 125, 126, 127, 128, 129, 130, 131, 132, 133, 134, 135, 136, 137, 138, 139, 140, 141, 142, 143] (by decide +kernel) (by decide +kernel)
set_option maxRecDepth 20000 in
theorem gX3_readInto_X3_readRow : GoodIn wsX3_readInto (wsV RX3 28 RX3 yX3_readRow wsX3_readRow) := goodIn_app (goodIn_of _ (by decide +kernel)) ggX3_readInto_X3_readRow
theorem dX3_readInto_0 : decode cX3_readInto 0 = .ok (.aload_n 1, 1) := by decide +kernel
theorem dX3_readInto_1 : decode cX3_readInto 1 = .ok (.invokevirtual 19, 3) := by decide +kernel
theorem dX3_readInto_4 : decode cX3_readInto 4 = .ok (.iconst 0, 1) := by decide +kernel
theorem dX3_readInto_5 : decode cX3_readInto 5 = .ok (.istore_n 2, 1) := by decide +kernel
theorem dX3_readInto_6 : decode cX3_readInto 6 = .ok (.iconst 0, 1) := by decide +kernel
theorem dX3_readInto_7 : decode cX3_readInto 7 = .ok (.istore_n 3, 1) := by decide +kernel
theorem dX3_readInto_8 : decode cX3_readInto 8 = .ok (.iload_n 3, 1) := by decide +kernel
theorem dX3_readInto_9 : decode cX3_readInto 9 = .ok (.bipush 60, 2) := by decide +kernel
theorem dX3_readInto_11 : decode cX3_readInto 11 = .ok (.if_icmp .ge 42, 3) := by decide +kernel
theorem dX3_readInto_14 : decode cX3_readInto 14 = .ok (.iload_n 2, 1) := by decide +kernel
theorem dX3_readInto_15 : decode cX3_readInto 15 = .ok (.aload_n 0, 1) := by decide +kernel
theorem dX3_readInto_16 : decode cX3_readInto 16 = .ok (.getfield 15, 3) := by decide +kernel
theorem dX3_readInto_19 : decode cX3_readInto 19 = .ok (.if_icmp .ge 34, 3) := by decide +kernel
theorem dX3_readInto_22 : decode cX3_readInto 22 = .ok (.aload_n 0, 1) := by decide +kernel
theorem dX3_readInto_23 : decode cX3_readInto 23 = .ok (.iload_n 2, 1) := by decide +kernel
theorem dX3_readInto_24 : decode cX3_readInto 24 = .ok (.invokevirtual 24, 3) := by decide +kernel
theorem dX3_readInto_27 : decode cX3_readInto 27 = .ok (.istore 4, 2) := by decide +kernel
theorem dX3_readInto_29 : decode cX3_readInto 29 = .ok (.aload_n 0, 1) := by decide +kernel
theorem dX3_readInto_30 : decode cX3_readInto 30 = .ok (.iload_n 2, 1) := by decide +kernel
theorem dX3_readInto_31 : decode cX3_readInto 31 = .ok (.iload 4, 2) := by decide +kernel
theorem dX3_readInto_33 : decode cX3_readInto 33 = .ok (.aload_n 1, 1) := by decide +kernel
theorem dX3_readInto_34 : decode cX3_readInto 34 = .ok (.invokevirtual 28, 3) := by decide +kernel
theorem dX3_readInto_37 : decode cX3_readInto 37 = .ok (.ifCond .ne 5, 3) := by decide +kernel
theorem dX3_readInto_40 : decode cX3_readInto 40 = .ok (.iload_n 2, 1) := by decide +kernel
theorem dX3_readInto_41 : decode cX3_readInto 41 = .ok (.ireturn, 1) := by decide +kernel
theorem dX3_readInto_42 : decode cX3_readInto 42 = .ok (.iload 4, 2) := by decide +kernel
theorem dX3_readInto_44 : decode cX3_readInto 44 = .ok (.iconst 1, 1) := by decide +kernel
theorem dX3_readInto_45 : decode cX3_readInto 45 = .ok (.iadd, 1) := by decide +kernel
theorem dX3_readInto_46 : decode cX3_readInto 46 = .ok (.istore_n 2, 1) := by decide +kernel
theorem dX3_readInto_47 : decode cX3_readInto 47 = .ok (.iinc 3 1, 3) := by decide +kernel
theorem dX3_readInto_50 : decode cX3_readInto 50 = .ok (.goto (-42), 3) := by decide +kernel
theorem dX3_readInto_53 : decode cX3_readInto 53 = .ok (.bipush (-4), 2) := by decide +kernel
theorem dX3_readInto_55 : decode cX3_readInto 55 = .ok (.ireturn, 1) := by decide +kernel
theorem dX3_letterAt_0 : decode cX3_letterAt 0 = .ok (.iload_n 1, 1) := by decide +kernel
theorem dX3_letterAt_1 : decode cX3_letterAt 1 = .ok (.ifCond .lt 26, 3) := by decide +kernel
theorem dX3_letterAt_4 : decode cX3_letterAt 4 = .ok (.iload_n 1, 1) := by decide +kernel
theorem dX3_letterAt_5 : decode cX3_letterAt 5 = .ok (.aload_n 0, 1) := by decide +kernel
theorem dX3_letterAt_6 : decode cX3_letterAt 6 = .ok (.getfield 15, 3) := by decide +kernel
theorem dX3_letterAt_9 : decode cX3_letterAt 9 = .ok (.if_icmp .ge 18, 3) := by decide +kernel
theorem dX3_letterAt_12 : decode cX3_letterAt 12 = .ok (.iload_n 1, 1) := by decide +kernel
theorem dX3_letterAt_13 : decode cX3_letterAt 13 = .ok (.bipush 60, 2) := by decide +kernel
theorem dX3_letterAt_15 : decode cX3_letterAt 15 = .ok (.if_icmp .ge 12, 3) := by decide +kernel
theorem dX3_letterAt_18 : decode cX3_letterAt 18 = .ok (.aload_n 0, 1) := by decide +kernel
theorem dX3_letterAt_19 : decode cX3_letterAt 19 = .ok (.getfield 9, 3) := by decide +kernel
theorem dX3_letterAt_22 : decode cX3_letterAt 22 = .ok (.iload_n 1, 1) := by decide +kernel
theorem dX3_letterAt_23 : decode cX3_letterAt 23 = .ok (.iaload, 1) := by decide +kernel
theorem dX3_letterAt_24 : decode cX3_letterAt 24 = .ok (.goto 4, 3) := by decide +kernel
theorem dX3_letterAt_27 : decode cX3_letterAt 27 = .ok (.iconst 0, 1) := by decide +kernel
theorem dX3_letterAt_28 : decode cX3_letterAt 28 = .ok (.ireturn, 1) := by decide +kernel
set_option maxRecDepth 20000 in
theorem ggX3_endOfItem_X3_letterAt : GoodIn wsX3_endOfItem wsX3_letterAt := goodIn_r _ [6, 1, 7, 8, 9] (by decide +kernel) (by decide +kernel)
set_option maxRecDepth 20000 in
theorem gX3_endOfItem_X3_letterAt : GoodIn wsX3_endOfItem (wsV RX3 32 RX3 yX3_letterAt wsX3_letterAt) := goodIn_app (goodIn_of _ (by decide +kernel)) ggX3_endOfItem_X3_letterAt
theorem dX3_endOfItem_0 : decode cX3_endOfItem 0 = .ok (.iload_n 1, 1) := by decide +kernel
theorem dX3_endOfItem_1 : decode cX3_endOfItem 1 = .ok (.istore_n 2, 1) := by decide +kernel
theorem dX3_endOfItem_2 : decode cX3_endOfItem 2 = .ok (.iload_n 2, 1) := by decide +kernel
theorem dX3_endOfItem_3 : decode cX3_endOfItem 3 = .ok (.aload_n 0, 1) := by decide +kernel
theorem dX3_endOfItem_4 : decode cX3_endOfItem 4 = .ok (.getfield 15, 3) := by decide +kernel
theorem dX3_endOfItem_7 : decode cX3_endOfItem 7 = .ok (.if_icmp .ge 21, 3) := by decide +kernel
theorem dX3_endOfItem_10 : decode cX3_endOfItem 10 = .ok (.aload_n 0, 1) := by decide +kernel
theorem dX3_endOfItem_11 : decode cX3_endOfItem 11 = .ok (.iload_n 2, 1) := by decide +kernel
theorem dX3_endOfItem_12 : decode cX3_endOfItem 12 = .ok (.invokevirtual 32, 3) := by decide +kernel
theorem dX3_endOfItem_15 : decode cX3_endOfItem 15 = .ok (.bipush 59, 2) := by decide +kernel
theorem dX3_endOfItem_17 : decode cX3_endOfItem 17 = .ok (.if_icmp .ne 5, 3) := by decide +kernel
theorem dX3_endOfItem_20 : decode cX3_endOfItem 20 = .ok (.iload_n 2, 1) := by decide +kernel
theorem dX3_endOfItem_21 : decode cX3_endOfItem 21 = .ok (.ireturn, 1) := by decide +kernel
theorem dX3_endOfItem_22 : decode cX3_endOfItem 22 = .ok (.iinc 2 1, 3) := by decide +kernel
theorem dX3_endOfItem_25 : decode cX3_endOfItem 25 = .ok (.goto (-23), 3) := by decide +kernel
theorem dX3_endOfItem_28 : decode cX3_endOfItem 28 = .ok (.aload_n 0, 1) := by decide +kernel
theorem dX3_endOfItem_29 : decode cX3_endOfItem 29 = .ok (.getfield 15, 3) := by decide +kernel
theorem dX3_endOfItem_32 : decode cX3_endOfItem 32 = .ok (.ireturn, 1) := by decide +kernel
set_option maxRecDepth 20000 in
theorem ggX3_readRow_X3_letterAt : GoodIn wsX3_readRow wsX3_letterAt := goodIn_r _ [6, 1, 7, 127, 128] (by decide +kernel) (by decide +kernel)
set_option maxRecDepth 20000 in
theorem gX3_readRow_X3_letterAt : GoodIn wsX3_readRow (wsV RX3 32 RX3 yX3_letterAt wsX3_letterAt) := goodIn_app (goodIn_of _ (by decide +kernel)) ggX3_readRow_X3_letterAt
set_option maxRecDepth 20000 in
theorem ggX3_readRow_X2_addRow : GoodIn wsX3_readRow wsX2_addRow := goodIn_r _ [12, 13, 14, 15, 16, 17, 11, 18, 19, 20, 21, 22, 23, 129, 130, 131] (by decide +kernel) (by decide +kernel)
set_option maxRecDepth 20000 in
theorem gX3_readRow_X2_addRow : GoodIn wsX3_readRow (wsV RX3 35 RX2 yX2_addRow wsX2_addRow) := goodIn_app (goodIn_of _ (by decide +kernel)) ggX3_readRow_X2_addRow
set_option maxRecDepth 20000 in
theorem ggX3_readRow_X2_cells : GoodIn wsX3_readRow wsX2_cells := goodIn_r _ [23, 14, 13, 129, 130, 131] (by decide +kernel) (by decide +kernel)
set_option maxRecDepth 20000 in
theorem gX3_readRow_X2_cells : GoodIn wsX3_readRow (wsV RX3 39 RX2 yX2_cells wsX2_cells) := goodIn_app (goodIn_of _ (by decide +kernel)) ggX3_readRow_X2_cells
set_option maxRecDepth 20000 in
theorem ggX3_readRow_J0_indexOf_0f7a4 : GoodIn wsX3_readRow wsJ0_indexOf_0f7a4 := goodIn_r _ [29, 30, 31, 32, 28, 33, 34, 35, 36, 37, 38, 39, 40, 41, 42, 43, 44, 45, 46, 47, 48, 49, 50, 51, 52, 53, 54, 55, 56, 57, 58, 59, 60, 61, 62, 63, 64, 65, 66, 67, 68, 69, 70, 71, 72, 73, 74, 75, 76, 77, 78, 79, 80, 81, 82, 83, 84, 85, 86, 87, 88, 89, 90, 91, 92, 93, 94, 95, 96, 97, 98, 99, 100, 101, 102, 103, 104, 105, 106, 107, 108, 109, 110, 111, 112, 113] (by decide +kernel) (by decide +kernel)
set_option maxRecDepth 20000 in
theorem gX3_readRow_J0_indexOf_0f7a4 : GoodIn wsX3_readRow (wsV RX3 45 RJ0 yJ0_indexOf_0f7a4 wsJ0_indexOf_0f7a4) := goodIn_app (goodIn_of _ (by decide +kernel)) ggX3_readRow_J0_indexOf_0f7a4
set_option maxRecDepth 20000 in
theorem ggX3_readRow_X2_tell : GoodIn wsX3_readRow wsX2_tell := goodIn_r _ [18, 19, 20, 21, 22, 11, 23, 14, 13, 129, 130, 131] (by decide +kernel) (by decide +kernel)
set_option maxRecDepth 20000 in
theorem gX3_readRow_X2_tell : GoodIn wsX3_readRow (wsV RX3 50 RX2 yX2_tell wsX2_tell) := goodIn_app (goodIn_of _ (by decide +kernel)) ggX3_readRow_X2_tell
set_option maxRecDepth 20000 in
theorem ggX3_readRow_X2_isOverfull : GoodIn wsX3_readRow wsX2_isOverfull := goodIn_r _ [118, 119, 120, 121, 11, 122, 20, 21, 22, 23, 14, 13, 123, 124, 125, 126, 19, 129, 130, 131] (by decide +kernel) (by decide +kernel)
set_option maxRecDepth 20000 in
theorem gX3_readRow_X2_isOverfull : GoodIn wsX3_readRow (wsV RX3 54 RX2 yX2_isOverfull wsX2_isOverfull) := goodIn_app (goodIn_of _ (by decide +kernel)) ggX3_readRow_X2_isOverfull
theorem dX3_readRow_0 : decode cX3_readRow 0 = .ok (.iload_n 2, 1) := by decide +kernel
theorem dX3_readRow_1 : decode cX3_readRow 1 = .ok (.iload_n 1, 1) := by decide +kernel
theorem dX3_readRow_2 : decode cX3_readRow 2 = .ok (.isub, 1) := by decide +kernel
theorem dX3_readRow_3 : decode cX3_readRow 3 = .ok (.iconst 1, 1) := by decide +kernel
theorem dX3_readRow_4 : decode cX3_readRow 4 = .ok (.isub, 1) := by decide +kernel
theorem dX3_readRow_5 : decode cX3_readRow 5 = .ok (.istore 4, 2) := by decide +kernel
theorem dX3_readRow_7 : decode cX3_readRow 7 = .ok (.iload_n 2, 1) := by decide +kernel
theorem dX3_readRow_8 : decode cX3_readRow 8 = .ok (.aload_n 0, 1) := by decide +kernel
theorem dX3_readRow_9 : decode cX3_readRow 9 = .ok (.getfield 15, 3) := by decide +kernel
theorem dX3_readRow_12 : decode cX3_readRow 12 = .ok (.if_icmp .ge 22, 3) := by decide +kernel
theorem dX3_readRow_15 : decode cX3_readRow 15 = .ok (.aload_n 0, 1) := by decide +kernel
theorem dX3_readRow_16 : decode cX3_readRow 16 = .ok (.iload_n 1, 1) := by decide +kernel
theorem dX3_readRow_17 : decode cX3_readRow 17 = .ok (.invokevirtual 32, 3) := by decide +kernel
theorem dX3_readRow_20 : decode cX3_readRow 20 = .ok (.bipush 114, 2) := by decide +kernel
theorem dX3_readRow_22 : decode cX3_readRow 22 = .ok (.if_icmp .ne 12, 3) := by decide +kernel
theorem dX3_readRow_25 : decode cX3_readRow 25 = .ok (.aload_n 3, 1) := by decide +kernel
theorem dX3_readRow_26 : decode cX3_readRow 26 = .ok (.iload 4, 2) := by decide +kernel
theorem dX3_readRow_28 : decode cX3_readRow 28 = .ok (.invokevirtual 35, 3) := by decide +kernel
theorem dX3_readRow_31 : decode cX3_readRow 31 = .ok (.ifCond .ne 5, 3) := by decide +kernel
theorem dX3_readRow_34 : decode cX3_readRow 34 = .ok (.iconst 0, 1) := by decide +kernel
theorem dX3_readRow_35 : decode cX3_readRow 35 = .ok (.ireturn, 1) := by decide +kernel
theorem dX3_readRow_36 : decode cX3_readRow 36 = .ok (.aload_n 3, 1) := by decide +kernel
theorem dX3_readRow_37 : decode cX3_readRow 37 = .ok (.invokevirtual 39, 3) := by decide +kernel
theorem dX3_readRow_40 : decode cX3_readRow 40 = .ok (.iload 4, 2) := by decide +kernel
theorem dX3_readRow_42 : decode cX3_readRow 42 = .ok (.isub, 1) := by decide +kernel
theorem dX3_readRow_43 : decode cX3_readRow 43 = .ok (.istore 5, 2) := by decide +kernel
theorem dX3_readRow_45 : decode cX3_readRow 45 = .ok (.iconst 0, 1) := by decide +kernel
theorem dX3_readRow_46 : decode cX3_readRow 46 = .ok (.istore 6, 2) := by decide +kernel
theorem dX3_readRow_48 : decode cX3_readRow 48 = .ok (.iload 6, 2) := by decide +kernel
theorem dX3_readRow_50 : decode cX3_readRow 50 = .ok (.iload 4, 2) := by decide +kernel
theorem dX3_readRow_52 : decode cX3_readRow 52 = .ok (.if_icmp .ge 45, 3) := by decide +kernel
theorem dX3_readRow_55 : decode cX3_readRow 55 = .ok (.ldc 43, 2) := by decide +kernel
theorem dX3_readRow_57 : decode cX3_readRow 57 = .ok (.aload_n 0, 1) := by decide +kernel
theorem dX3_readRow_58 : decode cX3_readRow 58 = .ok (.iload_n 1, 1) := by decide +kernel
theorem dX3_readRow_59 : decode cX3_readRow 59 = .ok (.iconst 1, 1) := by decide +kernel
theorem dX3_readRow_60 : decode cX3_readRow 60 = .ok (.iadd, 1) := by decide +kernel
theorem dX3_readRow_61 : decode cX3_readRow 61 = .ok (.iload 6, 2) := by decide +kernel
theorem dX3_readRow_63 : decode cX3_readRow 63 = .ok (.iadd, 1) := by decide +kernel
theorem dX3_readRow_64 : decode cX3_readRow 64 = .ok (.invokevirtual 32, 3) := by decide +kernel
theorem dX3_readRow_67 : decode cX3_readRow 67 = .ok (.i2c, 1) := by decide +kernel
theorem dX3_readRow_68 : decode cX3_readRow 68 = .ok (.invokevirtual 45, 3) := by decide +kernel
theorem dX3_readRow_71 : decode cX3_readRow 71 = .ok (.istore 7, 2) := by decide +kernel
theorem dX3_readRow_73 : decode cX3_readRow 73 = .ok (.iload 7, 2) := by decide +kernel
theorem dX3_readRow_75 : decode cX3_readRow 75 = .ok (.ifCond .ge 5, 3) := by decide +kernel
theorem dX3_readRow_78 : decode cX3_readRow 78 = .ok (.iconst 0, 1) := by decide +kernel
theorem dX3_readRow_79 : decode cX3_readRow 79 = .ok (.ireturn, 1) := by decide +kernel
theorem dX3_readRow_80 : decode cX3_readRow 80 = .ok (.aload_n 3, 1) := by decide +kernel
theorem dX3_readRow_81 : decode cX3_readRow 81 = .ok (.iload 5, 2) := by decide +kernel
theorem dX3_readRow_83 : decode cX3_readRow 83 = .ok (.iload 6, 2) := by decide +kernel
theorem dX3_readRow_85 : decode cX3_readRow 85 = .ok (.iadd, 1) := by decide +kernel
theorem dX3_readRow_86 : decode cX3_readRow 86 = .ok (.iload 7, 2) := by decide +kernel
theorem dX3_readRow_88 : decode cX3_readRow 88 = .ok (.invokevirtual 50, 3) := by decide +kernel
theorem dX3_readRow_91 : decode cX3_readRow 91 = .ok (.iinc 6 1, 3) := by decide +kernel
theorem dX3_readRow_94 : decode cX3_readRow 94 = .ok (.goto (-46), 3) := by decide +kernel
theorem dX3_readRow_97 : decode cX3_readRow 97 = .ok (.aload_n 3, 1) := by decide +kernel
theorem dX3_readRow_98 : decode cX3_readRow 98 = .ok (.invokevirtual 54, 3) := by decide +kernel
theorem dX3_readRow_101 : decode cX3_readRow 101 = .ok (.ifCond .ne 7, 3) := by decide +kernel
theorem dX3_readRow_104 : decode cX3_readRow 104 = .ok (.iconst 1, 1) := by decide +kernel
theorem dX3_readRow_105 : decode cX3_readRow 105 = .ok (.goto 4, 3) := by decide +kernel
theorem dX3_readRow_108 : decode cX3_readRow 108 = .ok (.iconst 0, 1) := by decide +kernel
theorem dX3_readRow_109 : decode cX3_readRow 109 = .ok (.ireturn, 1) := by decide +kernel
theorem dX4_init_0 : decode cX4_init 0 = .ok (.aload_n 0, 1) := by decide +kernel
theorem dX4_init_1 : decode cX4_init 1 = .ok (.invokespecial 3, 3) := by decide +kernel
theorem dX4_init_4 : decode cX4_init 4 = .ok (.aload_n 0, 1) := by decide +kernel
theorem dX4_init_5 : decode cX4_init 5 = .ok (.bipush 80, 2) := by decide +kernel
theorem dX4_init_7 : decode cX4_init 7 = .ok (.newarray .int, 2) := by decide +kernel
theorem dX4_init_9 : decode cX4_init 9 = .ok (.putfield 11, 3) := by decide +kernel
theorem dX4_init_12 : decode cX4_init 12 = .ok (.aload_n 0, 1) := by decide +kernel
theorem dX4_init_13 : decode cX4_init 13 = .ok (.bipush 80, 2) := by decide +kernel
theorem dX4_init_15 : decode cX4_init 15 = .ok (.newarray .int, 2) := by decide +kernel
theorem dX4_init_17 : decode cX4_init 17 = .ok (.putfield 15, 3) := by decide +kernel
theorem dX4_init_20 : decode cX4_init 20 = .ok (.aload_n 0, 1) := by decide +kernel
theorem dX4_init_21 : decode cX4_init 21 = .ok (.bipush 18, 2) := by decide +kernel
theorem dX4_init_23 : decode cX4_init 23 = .ok (.newarray .int, 2) := by decide +kernel
theorem dX4_init_25 : decode cX4_init 25 = .ok (.putfield 18, 3) := by decide +kernel
theorem dX4_init_28 : decode cX4_init 28 = .ok (.aload_n 0, 1) := by decide +kernel
theorem dX4_init_29 : decode cX4_init 29 = .ok (.iconst 0, 1) := by decide +kernel
theorem dX4_init_30 : decode cX4_init 30 = .ok (.putfield 21, 3) := by decide +kernel
theorem dX4_init_33 : decode cX4_init 33 = .ok (.aload_n 0, 1) := by decide +kernel
theorem dX4_init_34 : decode cX4_init 34 = .ok (.iconst 0, 1) := by decide +kernel
theorem dX4_init_35 : decode cX4_init 35 = .ok (.putfield 25, 3) := by decide +kernel
theorem dX4_init_38 : decode cX4_init 38 = .ok (.return_, 1) := by decide +kernel
set_option maxRecDepth 20000 in
theorem ggX4_goFrom_J7_fill_53178 : GoodIn wsX4_goFrom wsJ7_fill_53178 := goodIn_r _ [9] (by decide +kernel) (by decide +kernel)
set_option maxRecDepth 20000 in
theorem gX4_goFrom_J7_fill_53178 : GoodIn wsX4_goFrom (va_wsS RX4 28 yJ7_fill_53178 wsJ7_fill_53178) := goodIn_app (goodIn_of _ (by decide +kernel)) ggX4_goFrom_J7_fill_53178
set_option maxRecDepth 20000 in
theorem ggX4_goFrom_X2_portCell : GoodIn wsX4_goFrom wsX2_portCell := goodIn_r _ [14, 15, 16, 17, 18, 19, 13, 20, 67, 68, 69] (by decide +kernel) (by decide +kernel)
set_option maxRecDepth 20000 in
theorem gX4_goFrom_X2_portCell : GoodIn wsX4_goFrom (wsV RX4 34 RX2 yX2_portCell wsX2_portCell) := goodIn_app (goodIn_of _ (by decide +kernel)) ggX4_goFrom_X2_portCell
set_option maxRecDepth 20000 in
theorem ggX4_goFrom_X2_portDirection : GoodIn wsX4_goFrom wsX2_portDirection := goodIn_r _ [20, 15, 16, 67, 68, 69] (by decide +kernel) (by decide +kernel)
set_option maxRecDepth 20000 in
theorem gX4_goFrom_X2_portDirection : GoodIn wsX4_goFrom (wsV RX4 40 RX2 yX2_portDirection wsX2_portDirection) := goodIn_app (goodIn_of _ (by decide +kernel)) ggX4_goFrom_X2_portDirection
set_option maxRecDepth 20000 in
theorem ggX4_goFrom_X4_enter : GoodIn wsX4_goFrom wsX4_enter := goodIn_r _ [26, 3, 1, 5, 4, 62, 63, 64, 65, 66] (by decide +kernel) (by decide +kernel)
set_option maxRecDepth 20000 in
theorem gX4_goFrom_X4_enter : GoodIn wsX4_goFrom (wsV RX4 43 RX4 yX4_enter wsX4_enter) := goodIn_app (goodIn_of _ (by decide +kernel)) ggX4_goFrom_X4_enter
set_option maxRecDepth 20000 in
theorem ggX4_goFrom_X4_spread : GoodIn wsX4_goFrom wsX4_spread := goodIn_r _ [30, 1, 31, 32, 33, 13, 34, 35, 36, 37, 38, 39, 15, 16, 40, 41, 42, 43, 44, 45, 46, 47, 48, 25, 49, 50, 51, 52, 53, 22, 23, 24, 26, 3, 5, 4, 54, 55, 56, 57, 2, 58, 59, 60, 61, 62, 63, 64, 65, 66, 67, 68, 69] (by decide +kernel) (by decide +kernel)
set_option maxRecDepth 20000 in
theorem gX4_goFrom_X4_spread : GoodIn wsX4_goFrom (wsV RX4 47 RX4 yX4_spread wsX4_spread) := goodIn_app (goodIn_of _ (by decide +kernel)) ggX4_goFrom_X4_spread
theorem dX4_goFrom_0 : decode cX4_goFrom 0 = .ok (.aload_n 0, 1) := by decide +kernel
theorem dX4_goFrom_1 : decode cX4_goFrom 1 = .ok (.getfield 15, 3) := by decide +kernel
theorem dX4_goFrom_4 : decode cX4_goFrom 4 = .ok (.iconst 0, 1) := by decide +kernel
theorem dX4_goFrom_5 : decode cX4_goFrom 5 = .ok (.invokestatic 28, 3) := by decide +kernel
theorem dX4_goFrom_8 : decode cX4_goFrom 8 = .ok (.aload_n 0, 1) := by decide +kernel
theorem dX4_goFrom_9 : decode cX4_goFrom 9 = .ok (.getfield 18, 3) := by decide +kernel
theorem dX4_goFrom_12 : decode cX4_goFrom 12 = .ok (.iconst 0, 1) := by decide +kernel
theorem dX4_goFrom_13 : decode cX4_goFrom 13 = .ok (.invokestatic 28, 3) := by decide +kernel
theorem dX4_goFrom_16 : decode cX4_goFrom 16 = .ok (.aload_n 0, 1) := by decide +kernel
theorem dX4_goFrom_17 : decode cX4_goFrom 17 = .ok (.iconst 0, 1) := by decide +kernel
theorem dX4_goFrom_18 : decode cX4_goFrom 18 = .ok (.putfield 21, 3) := by decide +kernel
theorem dX4_goFrom_21 : decode cX4_goFrom 21 = .ok (.aload_n 0, 1) := by decide +kernel
theorem dX4_goFrom_22 : decode cX4_goFrom 22 = .ok (.iconst 0, 1) := by decide +kernel
theorem dX4_goFrom_23 : decode cX4_goFrom 23 = .ok (.putfield 25, 3) := by decide +kernel
theorem dX4_goFrom_26 : decode cX4_goFrom 26 = .ok (.aload_n 0, 1) := by decide +kernel
theorem dX4_goFrom_27 : decode cX4_goFrom 27 = .ok (.aload_n 1, 1) := by decide +kernel
theorem dX4_goFrom_28 : decode cX4_goFrom 28 = .ok (.iload_n 2, 1) := by decide +kernel
theorem dX4_goFrom_29 : decode cX4_goFrom 29 = .ok (.invokevirtual 34, 3) := by decide +kernel
theorem dX4_goFrom_32 : decode cX4_goFrom 32 = .ok (.aload_n 1, 1) := by decide +kernel
theorem dX4_goFrom_33 : decode cX4_goFrom 33 = .ok (.iload_n 2, 1) := by decide +kernel
theorem dX4_goFrom_34 : decode cX4_goFrom 34 = .ok (.invokevirtual 40, 3) := by decide +kernel
theorem dX4_goFrom_37 : decode cX4_goFrom 37 = .ok (.iconst 1, 1) := by decide +kernel
theorem dX4_goFrom_38 : decode cX4_goFrom 38 = .ok (.invokevirtual 43, 3) := by decide +kernel
theorem dX4_goFrom_41 : decode cX4_goFrom 41 = .ok (.iconst 0, 1) := by decide +kernel
theorem dX4_goFrom_42 : decode cX4_goFrom 42 = .ok (.istore_n 3, 1) := by decide +kernel
theorem dX4_goFrom_43 : decode cX4_goFrom 43 = .ok (.iload_n 3, 1) := by decide +kernel
theorem dX4_goFrom_44 : decode cX4_goFrom 44 = .ok (.bipush 80, 2) := by decide +kernel
theorem dX4_goFrom_46 : decode cX4_goFrom 46 = .ok (.if_icmp .ge 38, 3) := by decide +kernel
theorem dX4_goFrom_49 : decode cX4_goFrom 49 = .ok (.iload_n 3, 1) := by decide +kernel
theorem dX4_goFrom_50 : decode cX4_goFrom 50 = .ok (.aload_n 0, 1) := by decide +kernel
theorem dX4_goFrom_51 : decode cX4_goFrom 51 = .ok (.getfield 21, 3) := by decide +kernel
theorem dX4_goFrom_54 : decode cX4_goFrom 54 = .ok (.if_icmp .ge 30, 3) := by decide +kernel
theorem dX4_goFrom_57 : decode cX4_goFrom 57 = .ok (.aload_n 0, 1) := by decide +kernel
theorem dX4_goFrom_58 : decode cX4_goFrom 58 = .ok (.aload_n 1, 1) := by decide +kernel
theorem dX4_goFrom_59 : decode cX4_goFrom 59 = .ok (.aload_n 0, 1) := by decide +kernel
theorem dX4_goFrom_60 : decode cX4_goFrom 60 = .ok (.getfield 11, 3) := by decide +kernel
theorem dX4_goFrom_63 : decode cX4_goFrom 63 = .ok (.iload_n 3, 1) := by decide +kernel
theorem dX4_goFrom_64 : decode cX4_goFrom 64 = .ok (.iaload, 1) := by decide +kernel
theorem dX4_goFrom_65 : decode cX4_goFrom 65 = .ok (.iconst 4, 1) := by decide +kernel
theorem dX4_goFrom_66 : decode cX4_goFrom 66 = .ok (.idiv, 1) := by decide +kernel
theorem dX4_goFrom_67 : decode cX4_goFrom 67 = .ok (.aload_n 0, 1) := by decide +kernel
theorem dX4_goFrom_68 : decode cX4_goFrom 68 = .ok (.getfield 11, 3) := by decide +kernel
theorem dX4_goFrom_71 : decode cX4_goFrom 71 = .ok (.iload_n 3, 1) := by decide +kernel
theorem dX4_goFrom_72 : decode cX4_goFrom 72 = .ok (.iaload, 1) := by decide +kernel
theorem dX4_goFrom_73 : decode cX4_goFrom 73 = .ok (.iconst 4, 1) := by decide +kernel
theorem dX4_goFrom_74 : decode cX4_goFrom 74 = .ok (.irem, 1) := by decide +kernel
theorem dX4_goFrom_75 : decode cX4_goFrom 75 = .ok (.invokevirtual 47, 3) := by decide +kernel
theorem dX4_goFrom_78 : decode cX4_goFrom 78 = .ok (.iinc 3 1, 3) := by decide +kernel
theorem dX4_goFrom_81 : decode cX4_goFrom 81 = .ok (.goto (-38), 3) := by decide +kernel
theorem dX4_goFrom_84 : decode cX4_goFrom 84 = .ok (.return_, 1) := by decide +kernel
theorem dX4_fewestTo_0 : decode cX4_fewestTo 0 = .ok (.iload_n 1, 1) := by decide +kernel
theorem dX4_fewestTo_1 : decode cX4_fewestTo 1 = .ok (.ifCond .lt 27, 3) := by decide +kernel
theorem dX4_fewestTo_4 : decode cX4_fewestTo 4 = .ok (.iload_n 1, 1) := by decide +kernel
theorem dX4_fewestTo_5 : decode cX4_fewestTo 5 = .ok (.bipush 18, 2) := by decide +kernel
theorem dX4_fewestTo_7 : decode cX4_fewestTo 7 = .ok (.if_icmp .ge 21, 3) := by decide +kernel
theorem dX4_fewestTo_10 : decode cX4_fewestTo 10 = .ok (.aload_n 0, 1) := by decide +kernel
theorem dX4_fewestTo_11 : decode cX4_fewestTo 11 = .ok (.getfield 18, 3) := by decide +kernel
theorem dX4_fewestTo_14 : decode cX4_fewestTo 14 = .ok (.iload_n 1, 1) := by decide +kernel
theorem dX4_fewestTo_15 : decode cX4_fewestTo 15 = .ok (.iaload, 1) := by decide +kernel
theorem dX4_fewestTo_16 : decode cX4_fewestTo 16 = .ok (.ifCond .le 12, 3) := by decide +kernel
theorem dX4_fewestTo_19 : decode cX4_fewestTo 19 = .ok (.aload_n 0, 1) := by decide +kernel
theorem dX4_fewestTo_20 : decode cX4_fewestTo 20 = .ok (.getfield 18, 3) := by decide +kernel
theorem dX4_fewestTo_23 : decode cX4_fewestTo 23 = .ok (.iload_n 1, 1) := by decide +kernel
theorem dX4_fewestTo_24 : decode cX4_fewestTo 24 = .ok (.iaload, 1) := by decide +kernel
theorem dX4_fewestTo_25 : decode cX4_fewestTo 25 = .ok (.goto 5, 3) := by decide +kernel
theorem dX4_fewestTo_28 : decode cX4_fewestTo 28 = .ok (.bipush (-4), 2) := by decide +kernel
theorem dX4_fewestTo_30 : decode cX4_fewestTo 30 = .ok (.ireturn, 1) := by decide +kernel
theorem dX4_enter_0 : decode cX4_enter 0 = .ok (.iload_n 1, 1) := by decide +kernel
theorem dX4_enter_1 : decode cX4_enter 1 = .ok (.iconst 4, 1) := by decide +kernel
theorem dX4_enter_2 : decode cX4_enter 2 = .ok (.imul, 1) := by decide +kernel
theorem dX4_enter_3 : decode cX4_enter 3 = .ok (.iload_n 2, 1) := by decide +kernel
theorem dX4_enter_4 : decode cX4_enter 4 = .ok (.iadd, 1) := by decide +kernel
theorem dX4_enter_5 : decode cX4_enter 5 = .ok (.istore 4, 2) := by decide +kernel
theorem dX4_enter_7 : decode cX4_enter 7 = .ok (.iload 4, 2) := by decide +kernel
theorem dX4_enter_9 : decode cX4_enter 9 = .ok (.ifCond .lt 29, 3) := by decide +kernel
theorem dX4_enter_12 : decode cX4_enter 12 = .ok (.iload 4, 2) := by decide +kernel
theorem dX4_enter_14 : decode cX4_enter 14 = .ok (.bipush 80, 2) := by decide +kernel
theorem dX4_enter_16 : decode cX4_enter 16 = .ok (.if_icmp .ge 22, 3) := by decide +kernel
theorem dX4_enter_19 : decode cX4_enter 19 = .ok (.aload_n 0, 1) := by decide +kernel
theorem dX4_enter_20 : decode cX4_enter 20 = .ok (.getfield 21, 3) := by decide +kernel
theorem dX4_enter_23 : decode cX4_enter 23 = .ok (.bipush 80, 2) := by decide +kernel
theorem dX4_enter_25 : decode cX4_enter 25 = .ok (.if_icmp .ge 13, 3) := by decide +kernel
theorem dX4_enter_28 : decode cX4_enter 28 = .ok (.aload_n 0, 1) := by decide +kernel
theorem dX4_enter_29 : decode cX4_enter 29 = .ok (.getfield 15, 3) := by decide +kernel
theorem dX4_enter_32 : decode cX4_enter 32 = .ok (.iload 4, 2) := by decide +kernel
theorem dX4_enter_34 : decode cX4_enter 34 = .ok (.iaload, 1) := by decide +kernel
theorem dX4_enter_35 : decode cX4_enter 35 = .ok (.ifCond .eq 4, 3) := by decide +kernel
theorem dX4_enter_38 : decode cX4_enter 38 = .ok (.return_, 1) := by decide +kernel
theorem dX4_enter_39 : decode cX4_enter 39 = .ok (.aload_n 0, 1) := by decide +kernel
theorem dX4_enter_40 : decode cX4_enter 40 = .ok (.getfield 15, 3) := by decide +kernel
theorem dX4_enter_43 : decode cX4_enter 43 = .ok (.iload 4, 2) := by decide +kernel
theorem dX4_enter_45 : decode cX4_enter 45 = .ok (.iload_n 3, 1) := by decide +kernel
theorem dX4_enter_46 : decode cX4_enter 46 = .ok (.iastore, 1) := by decide +kernel
theorem dX4_enter_47 : decode cX4_enter 47 = .ok (.aload_n 0, 1) := by decide +kernel
theorem dX4_enter_48 : decode cX4_enter 48 = .ok (.getfield 11, 3) := by decide +kernel
theorem dX4_enter_51 : decode cX4_enter 51 = .ok (.aload_n 0, 1) := by decide +kernel
theorem dX4_enter_52 : decode cX4_enter 52 = .ok (.getfield 21, 3) := by decide +kernel
theorem dX4_enter_55 : decode cX4_enter 55 = .ok (.iload 4, 2) := by decide +kernel
theorem dX4_enter_57 : decode cX4_enter 57 = .ok (.iastore, 1) := by decide +kernel
theorem dX4_enter_58 : decode cX4_enter 58 = .ok (.aload_n 0, 1) := by decide +kernel
theorem dX4_enter_59 : decode cX4_enter 59 = .ok (.dup, 1) := by decide +kernel
theorem dX4_enter_60 : decode cX4_enter 60 = .ok (.getfield 21, 3) := by decide +kernel
theorem dX4_enter_63 : decode cX4_enter 63 = .ok (.iconst 1, 1) := by decide +kernel
theorem dX4_enter_64 : decode cX4_enter 64 = .ok (.iadd, 1) := by decide +kernel
theorem dX4_enter_65 : decode cX4_enter 65 = .ok (.putfield 21, 3) := by decide +kernel
theorem dX4_enter_68 : decode cX4_enter 68 = .ok (.aload_n 0, 1) := by decide +kernel
theorem dX4_enter_69 : decode cX4_enter 69 = .ok (.dup, 1) := by decide +kernel
theorem dX4_enter_70 : decode cX4_enter 70 = .ok (.getfield 25, 3) := by decide +kernel
theorem dX4_enter_73 : decode cX4_enter 73 = .ok (.iconst 1, 1) := by decide +kernel
theorem dX4_enter_74 : decode cX4_enter 74 = .ok (.iload_n 1, 1) := by decide +kernel
theorem dX4_enter_75 : decode cX4_enter 75 = .ok (.ishl, 1) := by decide +kernel
theorem dX4_enter_76 : decode cX4_enter 76 = .ok (.ior, 1) := by decide +kernel
theorem dX4_enter_77 : decode cX4_enter 77 = .ok (.putfield 25, 3) := by decide +kernel
theorem dX4_enter_80 : decode cX4_enter 80 = .ok (.return_, 1) := by decide +kernel
set_option maxRecDepth 20000 in
theorem ggX4_spread_X2_kindAt : GoodIn wsX4_spread wsX2_kindAt := goodIn_r _ [6, 7, 8, 9, 10, 5, 11, 12, 13, 50, 51, 52] (by decide +kernel) (by decide +kernel)
set_option maxRecDepth 20000 in
theorem gX4_spread_X2_kindAt : GoodIn wsX4_spread (wsV RX4 51 RX2 yX2_kindAt wsX2_kindAt) := goodIn_app (goodIn_of _ (by decide +kernel)) ggX4_spread_X2_kindAt
set_option maxRecDepth 20000 in
theorem ggX4_spread_X5_letsOn : GoodIn wsX4_spread wsX5_letsOn := goodIn_r _ [16, 17, 18, 15, 19] (by decide +kernel) (by decide +kernel)
set_option maxRecDepth 20000 in
theorem gX4_spread_X5_letsOn_n54 : GoodIn wsX4_spread (wsX5_letsOn) := ggX4_spread_X5_letsOn
set_option maxRecDepth 20000 in
theorem ggX4_spread_X4_leave : GoodIn wsX4_spread wsX4_leave := goodIn_r _ [24, 25, 26, 27, 5, 28, 12, 13, 29, 30, 31, 23, 32, 33, 1, 34, 35, 36, 37, 38, 39, 40, 50, 51, 52, 45, 46, 47, 48, 49] (by decide +kernel) (by decide +kernel)
set_option maxRecDepth 20000 in
theorem gX4_spread_X4_leave : GoodIn wsX4_spread (wsV RX4 58 RX4 yX4_leave wsX4_leave) := goodIn_app (goodIn_of _ (by decide +kernel)) ggX4_spread_X4_leave
set_option maxRecDepth 20000 in
theorem ggX4_spread_X5_turnsBeam : GoodIn wsX4_spread wsX5_turnsBeam := goodIn_r _ [42, 17, 18, 15, 19] (by decide +kernel) (by decide +kernel)
set_option maxRecDepth 20000 in
theorem gX4_spread_X5_turnsBeam_n62 : GoodIn wsX4_spread (wsX5_turnsBeam) := ggX4_spread_X5_turnsBeam
set_option maxRecDepth 20000 in
theorem ggX4_spread_X5_turnedBy : GoodIn wsX4_spread wsX5_turnedBy := goodIn_r _ [44] (by decide +kernel) (by decide +kernel)
set_option maxRecDepth 20000 in
theorem gX4_spread_X5_turnedBy_n65 : GoodIn wsX4_spread (wsX5_turnedBy) := ggX4_spread_X5_turnedBy
theorem dX4_spread_0 : decode cX4_spread 0 = .ok (.aload_n 1, 1) := by decide +kernel
theorem dX4_spread_1 : decode cX4_spread 1 = .ok (.iload_n 2, 1) := by decide +kernel
theorem dX4_spread_2 : decode cX4_spread 2 = .ok (.invokevirtual 51, 3) := by decide +kernel
theorem dX4_spread_5 : decode cX4_spread 5 = .ok (.istore 4, 2) := by decide +kernel
theorem dX4_spread_7 : decode cX4_spread 7 = .ok (.iload_n 2, 1) := by decide +kernel
theorem dX4_spread_8 : decode cX4_spread 8 = .ok (.iconst 4, 1) := by decide +kernel
theorem dX4_spread_9 : decode cX4_spread 9 = .ok (.imul, 1) := by decide +kernel
theorem dX4_spread_10 : decode cX4_spread 10 = .ok (.iload_n 3, 1) := by decide +kernel
theorem dX4_spread_11 : decode cX4_spread 11 = .ok (.iadd, 1) := by decide +kernel
theorem dX4_spread_12 : decode cX4_spread 12 = .ok (.istore 5, 2) := by decide +kernel
theorem dX4_spread_14 : decode cX4_spread 14 = .ok (.iload 5, 2) := by decide +kernel
theorem dX4_spread_16 : decode cX4_spread 16 = .ok (.ifCond .lt 20, 3) := by decide +kernel
theorem dX4_spread_19 : decode cX4_spread 19 = .ok (.iload 5, 2) := by decide +kernel
theorem dX4_spread_21 : decode cX4_spread 21 = .ok (.bipush 80, 2) := by decide +kernel
theorem dX4_spread_23 : decode cX4_spread 23 = .ok (.if_icmp .ge 13, 3) := by decide +kernel
theorem dX4_spread_26 : decode cX4_spread 26 = .ok (.aload_n 0, 1) := by decide +kernel
theorem dX4_spread_27 : decode cX4_spread 27 = .ok (.getfield 15, 3) := by decide +kernel
theorem dX4_spread_30 : decode cX4_spread 30 = .ok (.iload 5, 2) := by decide +kernel
theorem dX4_spread_32 : decode cX4_spread 32 = .ok (.iaload, 1) := by decide +kernel
theorem dX4_spread_33 : decode cX4_spread 33 = .ok (.goto 4, 3) := by decide +kernel
theorem dX4_spread_36 : decode cX4_spread 36 = .ok (.iconst 0, 1) := by decide +kernel
theorem dX4_spread_37 : decode cX4_spread 37 = .ok (.istore 6, 2) := by decide +kernel
theorem dX4_spread_39 : decode cX4_spread 39 = .ok (.iload 4, 2) := by decide +kernel
theorem dX4_spread_41 : decode cX4_spread 41 = .ok (.invokestatic 54, 3) := by decide +kernel
theorem dX4_spread_44 : decode cX4_spread 44 = .ok (.ifCond .eq 12, 3) := by decide +kernel
theorem dX4_spread_47 : decode cX4_spread 47 = .ok (.aload_n 0, 1) := by decide +kernel
theorem dX4_spread_48 : decode cX4_spread 48 = .ok (.aload_n 1, 1) := by decide +kernel
theorem dX4_spread_49 : decode cX4_spread 49 = .ok (.iload_n 2, 1) := by decide +kernel
theorem dX4_spread_50 : decode cX4_spread 50 = .ok (.iload_n 3, 1) := by decide +kernel
theorem dX4_spread_51 : decode cX4_spread 51 = .ok (.iload 6, 2) := by decide +kernel
theorem dX4_spread_53 : decode cX4_spread 53 = .ok (.invokevirtual 58, 3) := by decide +kernel
theorem dX4_spread_56 : decode cX4_spread 56 = .ok (.iload 4, 2) := by decide +kernel
theorem dX4_spread_58 : decode cX4_spread 58 = .ok (.invokestatic 62, 3) := by decide +kernel
theorem dX4_spread_61 : decode cX4_spread 61 = .ok (.ifCond .eq 17, 3) := by decide +kernel
theorem dX4_spread_64 : decode cX4_spread 64 = .ok (.aload_n 0, 1) := by decide +kernel
theorem dX4_spread_65 : decode cX4_spread 65 = .ok (.aload_n 1, 1) := by decide +kernel
theorem dX4_spread_66 : decode cX4_spread 66 = .ok (.iload_n 2, 1) := by decide +kernel
theorem dX4_spread_67 : decode cX4_spread 67 = .ok (.iload 4, 2) := by decide +kernel
theorem dX4_spread_69 : decode cX4_spread 69 = .ok (.iload_n 3, 1) := by decide +kernel
theorem dX4_spread_70 : decode cX4_spread 70 = .ok (.invokestatic 65, 3) := by decide +kernel
theorem dX4_spread_73 : decode cX4_spread 73 = .ok (.iload 6, 2) := by decide +kernel
theorem dX4_spread_75 : decode cX4_spread 75 = .ok (.invokevirtual 58, 3) := by decide +kernel
theorem dX4_spread_78 : decode cX4_spread 78 = .ok (.return_, 1) := by decide +kernel
set_option maxRecDepth 20000 in
theorem ggX4_leave_X2_beyond : GoodIn wsX4_leave wsX2_beyond := goodIn_r _ [5, 6, 7, 22, 23, 24] (by decide +kernel) (by decide +kernel)
set_option maxRecDepth 20000 in
theorem gX4_leave_X2_beyond : GoodIn wsX4_leave (wsV RX4 69 RX2 yX2_beyond wsX2_beyond) := goodIn_app (goodIn_of _ (by decide +kernel)) ggX4_leave_X2_beyond
set_option maxRecDepth 20000 in
theorem ggX4_leave_X4_enter : GoodIn wsX4_leave wsX4_enter := goodIn_r _ [12, 13, 14, 15, 16, 25, 26, 27, 28, 29] (by decide +kernel) (by decide +kernel)
set_option maxRecDepth 20000 in
theorem gX4_leave_X4_enter : GoodIn wsX4_leave (wsV RX4 43 RX4 yX4_enter wsX4_enter) := goodIn_app (goodIn_of _ (by decide +kernel)) ggX4_leave_X4_enter
set_option maxRecDepth 20000 in
theorem ggX4_leave_X4_reach : GoodIn wsX4_leave wsX4_reach := goodIn_r _ [20, 21, 25, 26, 27, 28, 29] (by decide +kernel) (by decide +kernel)
set_option maxRecDepth 20000 in
theorem gX4_leave_X4_reach : GoodIn wsX4_leave (wsV RX4 72 RX4 yX4_reach wsX4_reach) := goodIn_app (goodIn_of _ (by decide +kernel)) ggX4_leave_X4_reach
theorem dX4_leave_0 : decode cX4_leave 0 = .ok (.aload_n 1, 1) := by decide +kernel
theorem dX4_leave_1 : decode cX4_leave 1 = .ok (.iload_n 2, 1) := by decide +kernel
theorem dX4_leave_2 : decode cX4_leave 2 = .ok (.iload_n 3, 1) := by decide +kernel
theorem dX4_leave_3 : decode cX4_leave 3 = .ok (.invokevirtual 69, 3) := by decide +kernel
theorem dX4_leave_6 : decode cX4_leave 6 = .ok (.istore 5, 2) := by decide +kernel
theorem dX4_leave_8 : decode cX4_leave 8 = .ok (.iload 5, 2) := by decide +kernel
theorem dX4_leave_10 : decode cX4_leave 10 = .ok (.ifCond .lt 17, 3) := by decide +kernel
theorem dX4_leave_13 : decode cX4_leave 13 = .ok (.aload_n 0, 1) := by decide +kernel
theorem dX4_leave_14 : decode cX4_leave 14 = .ok (.iload 5, 2) := by decide +kernel
theorem dX4_leave_16 : decode cX4_leave 16 = .ok (.iload_n 3, 1) := by decide +kernel
theorem dX4_leave_17 : decode cX4_leave 17 = .ok (.iload 4, 2) := by decide +kernel
theorem dX4_leave_19 : decode cX4_leave 19 = .ok (.iconst 1, 1) := by decide +kernel
theorem dX4_leave_20 : decode cX4_leave 20 = .ok (.iadd, 1) := by decide +kernel
theorem dX4_leave_21 : decode cX4_leave 21 = .ok (.invokevirtual 43, 3) := by decide +kernel
theorem dX4_leave_24 : decode cX4_leave 24 = .ok (.goto 13, 3) := by decide +kernel
theorem dX4_leave_27 : decode cX4_leave 27 = .ok (.aload_n 0, 1) := by decide +kernel
theorem dX4_leave_28 : decode cX4_leave 28 = .ok (.iload 5, 2) := by decide +kernel
theorem dX4_leave_30 : decode cX4_leave 30 = .ok (.iconst (-1), 1) := by decide +kernel
theorem dX4_leave_31 : decode cX4_leave 31 = .ok (.ixor, 1) := by decide +kernel
theorem dX4_leave_32 : decode cX4_leave 32 = .ok (.iload 4, 2) := by decide +kernel
theorem dX4_leave_34 : decode cX4_leave 34 = .ok (.invokevirtual 72, 3) := by decide +kernel
theorem dX4_leave_37 : decode cX4_leave 37 = .ok (.return_, 1) := by decide +kernel
theorem dX4_reach_0 : decode cX4_reach 0 = .ok (.iload_n 1, 1) := by decide +kernel
theorem dX4_reach_1 : decode cX4_reach 1 = .ok (.ifCond .lt 25, 3) := by decide +kernel
theorem dX4_reach_4 : decode cX4_reach 4 = .ok (.iload_n 1, 1) := by decide +kernel
theorem dX4_reach_5 : decode cX4_reach 5 = .ok (.bipush 18, 2) := by decide +kernel
theorem dX4_reach_7 : decode cX4_reach 7 = .ok (.if_icmp .ge 19, 3) := by decide +kernel
theorem dX4_reach_10 : decode cX4_reach 10 = .ok (.aload_n 0, 1) := by decide +kernel
theorem dX4_reach_11 : decode cX4_reach 11 = .ok (.getfield 18, 3) := by decide +kernel
theorem dX4_reach_14 : decode cX4_reach 14 = .ok (.iload_n 1, 1) := by decide +kernel
theorem dX4_reach_15 : decode cX4_reach 15 = .ok (.iaload, 1) := by decide +kernel
theorem dX4_reach_16 : decode cX4_reach 16 = .ok (.ifCond .ne 10, 3) := by decide +kernel
theorem dX4_reach_19 : decode cX4_reach 19 = .ok (.aload_n 0, 1) := by decide +kernel
theorem dX4_reach_20 : decode cX4_reach 20 = .ok (.getfield 18, 3) := by decide +kernel
theorem dX4_reach_23 : decode cX4_reach 23 = .ok (.iload_n 1, 1) := by decide +kernel
theorem dX4_reach_24 : decode cX4_reach 24 = .ok (.iload_n 2, 1) := by decide +kernel
theorem dX4_reach_25 : decode cX4_reach 25 = .ok (.iastore, 1) := by decide +kernel
theorem dX4_reach_26 : decode cX4_reach 26 = .ok (.return_, 1) := by decide +kernel
set_option maxRecDepth 20000 in
theorem ggX5_init_X3_init : GoodIn wsX5_init wsX3_init := goodIn_r _ [26, 27, 2, 3, 28, 29, 30, 67, 68] (by decide +kernel) (by decide +kernel)
set_option maxRecDepth 20000 in
theorem gX5_init_X3_init_n11 : GoodIn wsX5_init (wsX3_init) := ggX5_init_X3_init
set_option maxRecDepth 20000 in
theorem ggX5_init_X2_init : GoodIn wsX5_init wsX2_init := goodIn_r _ [33, 34, 2, 3, 28, 35, 36, 37, 38, 39, 40, 41, 75, 76, 77] (by decide +kernel) (by decide +kernel)
set_option maxRecDepth 20000 in
theorem gX5_init_X2_init : GoodIn wsX5_init (wsX2_init) := ggX5_init_X2_init
set_option maxRecDepth 20000 in
theorem ggX5_init_X1_init : GoodIn wsX5_init wsX1_init := goodIn_r _ [43, 44, 2, 3, 28, 45, 46, 78, 79] (by decide +kernel) (by decide +kernel)
set_option maxRecDepth 20000 in
theorem gX5_init_X1_init_n28 : GoodIn wsX5_init (wsX1_init) := ggX5_init_X1_init
set_option maxRecDepth 20000 in
theorem ggX5_init_X4_init : GoodIn wsX5_init wsX4_init := goodIn_r _ [48, 49, 2, 3, 28, 50, 51, 52, 53, 54, 80, 81, 82, 83, 84] (by decide +kernel) (by decide +kernel)
set_option maxRecDepth 20000 in
theorem gX5_init_X4_init_n35 : GoodIn wsX5_init (wsX4_init) := ggX5_init_X4_init
set_option maxRecDepth 20000 in
theorem ggX5_init_X0_init : GoodIn wsX5_init wsX0_init := goodIn_r _ [56, 57, 2, 3, 28, 58, 59, 60, 61, 62, 63, 64, 65, 66, 85, 86, 87, 88, 89, 90, 91] (by decide +kernel) (by decide +kernel)
set_option maxRecDepth 20000 in
theorem gX5_init_X0_init_n42 : GoodIn wsX5_init (wsX0_init) := ggX5_init_X0_init
theorem dX5_init_0 : decode cX5_init 0 = .ok (.aload_n 0, 1) := by decide +kernel
theorem dX5_init_1 : decode cX5_init 1 = .ok (.invokespecial 3, 3) := by decide +kernel
theorem dX5_init_4 : decode cX5_init 4 = .ok (.aload_n 0, 1) := by decide +kernel
theorem dX5_init_5 : decode cX5_init 5 = .ok (.new 9, 3) := by decide +kernel
theorem dX5_init_8 : decode cX5_init 8 = .ok (.dup, 1) := by decide +kernel
theorem dX5_init_9 : decode cX5_init 9 = .ok (.invokespecial 11, 3) := by decide +kernel
theorem dX5_init_12 : decode cX5_init 12 = .ok (.putfield 12, 3) := by decide +kernel
theorem dX5_init_15 : decode cX5_init 15 = .ok (.aload_n 0, 1) := by decide +kernel
theorem dX5_init_16 : decode cX5_init 16 = .ok (.new 16, 3) := by decide +kernel
theorem dX5_init_19 : decode cX5_init 19 = .ok (.dup, 1) := by decide +kernel
theorem dX5_init_20 : decode cX5_init 20 = .ok (.invokespecial 18, 3) := by decide +kernel
theorem dX5_init_23 : decode cX5_init 23 = .ok (.putfield 19, 3) := by decide +kernel
theorem dX5_init_26 : decode cX5_init 26 = .ok (.aload_n 0, 1) := by decide +kernel
theorem dX5_init_27 : decode cX5_init 27 = .ok (.new 16, 3) := by decide +kernel
theorem dX5_init_30 : decode cX5_init 30 = .ok (.dup, 1) := by decide +kernel
theorem dX5_init_31 : decode cX5_init 31 = .ok (.invokespecial 18, 3) := by decide +kernel
theorem dX5_init_34 : decode cX5_init 34 = .ok (.putfield 23, 3) := by decide +kernel
theorem dX5_init_37 : decode cX5_init 37 = .ok (.aload_n 0, 1) := by decide +kernel
theorem dX5_init_38 : decode cX5_init 38 = .ok (.new 26, 3) := by decide +kernel
theorem dX5_init_41 : decode cX5_init 41 = .ok (.dup, 1) := by decide +kernel
theorem dX5_init_42 : decode cX5_init 42 = .ok (.invokespecial 28, 3) := by decide +kernel
theorem dX5_init_45 : decode cX5_init 45 = .ok (.putfield 29, 3) := by decide +kernel
theorem dX5_init_48 : decode cX5_init 48 = .ok (.aload_n 0, 1) := by decide +kernel
theorem dX5_init_49 : decode cX5_init 49 = .ok (.new 33, 3) := by decide +kernel
theorem dX5_init_52 : decode cX5_init 52 = .ok (.dup, 1) := by decide +kernel
theorem dX5_init_53 : decode cX5_init 53 = .ok (.invokespecial 35, 3) := by decide +kernel
theorem dX5_init_56 : decode cX5_init 56 = .ok (.putfield 36, 3) := by decide +kernel
theorem dX5_init_59 : decode cX5_init 59 = .ok (.aload_n 0, 1) := by decide +kernel
theorem dX5_init_60 : decode cX5_init 60 = .ok (.new 40, 3) := by decide +kernel
theorem dX5_init_63 : decode cX5_init 63 = .ok (.dup, 1) := by decide +kernel
theorem dX5_init_64 : decode cX5_init 64 = .ok (.invokespecial 42, 3) := by decide +kernel
theorem dX5_init_67 : decode cX5_init 67 = .ok (.putfield 43, 3) := by decide +kernel
theorem dX5_init_70 : decode cX5_init 70 = .ok (.return_, 1) := by decide +kernel
set_option maxRecDepth 20000 in
theorem ggX5_write_X3_append : GoodIn wsX5_write wsX3_append := goodIn_r _ [6, 7, 8, 15, 16] (by decide +kernel) (by decide +kernel)
set_option maxRecDepth 20000 in
theorem gX5_write_X3_append : GoodIn wsX5_write (wsV RX5 47 RX3 yX3_append wsX3_append) := goodIn_app (goodIn_of _ (by decide +kernel)) ggX5_write_X3_append
theorem dX5_write_0 : decode cX5_write 0 = .ok (.iload_n 1, 1) := by decide +kernel
theorem dX5_write_1 : decode cX5_write 1 = .ok (.bipush 32, 2) := by decide +kernel
theorem dX5_write_3 : decode cX5_write 3 = .ok (.if_icmp .lt 9, 3) := by decide +kernel
theorem dX5_write_6 : decode cX5_write 6 = .ok (.iload_n 1, 1) := by decide +kernel
theorem dX5_write_7 : decode cX5_write 7 = .ok (.bipush 126, 2) := by decide +kernel
theorem dX5_write_9 : decode cX5_write 9 = .ok (.if_icmp .le 5, 3) := by decide +kernel
theorem dX5_write_12 : decode cX5_write 12 = .ok (.iconst (-1), 1) := by decide +kernel
theorem dX5_write_13 : decode cX5_write 13 = .ok (.ireturn, 1) := by decide +kernel
theorem dX5_write_14 : decode cX5_write 14 = .ok (.aload_n 0, 1) := by decide +kernel
theorem dX5_write_15 : decode cX5_write 15 = .ok (.getfield 12, 3) := by decide +kernel
theorem dX5_write_18 : decode cX5_write 18 = .ok (.iload_n 1, 1) := by decide +kernel
theorem dX5_write_19 : decode cX5_write 19 = .ok (.invokevirtual 47, 3) := by decide +kernel
theorem dX5_write_22 : decode cX5_write 22 = .ok (.ireturn, 1) := by decide +kernel
set_option maxRecDepth 20000 in
theorem ggX5_wipe_X3_clear : GoodIn wsX5_wipe wsX3_clear := goodIn_r _ [6, 7, 14, 15] (by decide +kernel) (by decide +kernel)
set_option maxRecDepth 20000 in
theorem gX5_wipe_X3_clear : GoodIn wsX5_wipe (wsV RX5 51 RX3 yX3_clear wsX3_clear) := goodIn_app (goodIn_of _ (by decide +kernel)) ggX5_wipe_X3_clear
theorem dX5_wipe_0 : decode cX5_wipe 0 = .ok (.aload_n 0, 1) := by decide +kernel
theorem dX5_wipe_1 : decode cX5_wipe 1 = .ok (.getfield 12, 3) := by decide +kernel
theorem dX5_wipe_4 : decode cX5_wipe 4 = .ok (.invokevirtual 51, 3) := by decide +kernel
theorem dX5_wipe_7 : decode cX5_wipe 7 = .ok (.ireturn, 1) := by decide +kernel
set_option maxRecDepth 20000 in
theorem ggX5_fault_X3_readInto : GoodIn wsX5_fault wsX3_readInto := goodIn_r _ [7, 8, 9, 10, 11, 12, 13, 14, 15, 16, 17, 18, 6, 19, 20, 21, 22, 23, 24, 25, 26, 27, 28, 29, 30, 31, 32, 33, 34, 35, 36, 37, 38, 39, 40, 41, 42, 43, 44, 45, 46, 47, 48, 49, 50, 51, 52, 53, 54, 55, 56, 57, 58, 59, 60, 61, 62, 63, 64, 65, 66, 67, 68, 69, 70, 71, 72, 73, 74, 75, 76, 77, 78, 79, 80, 81, 82, 83, 84, 85, 86, 87, 88, 89, 90, 91, 92, 93, 94, 95, 96, 97, 98, 99, 100, 101, 102, 103, 104, 105, 106, 107, 108, 109, 110, 111, 112, 113, 114, 115, 116, 117, 118, 119, 120, 121, 122, 123, 124, 125, 126, 127, 128, 129, 130, 131, 132, 133, 134, 135, 136, 137, 138, 139, 140, 141, 142, 143, 144, 151, 152, 153, 154, 155] (by decide +kernel) (by decide +kernel)
set_option maxRecDepth 20000 in
theorem gX5_fault_X3_readInto : GoodIn wsX5_fault (wsV RX5 55 RX3 yX3_readInto wsX3_readInto) := goodIn_app (goodIn_of _ (by decide +kernel)) ggX5_fault_X3_readInto
theorem dX5_fault_0 : decode cX5_fault 0 = .ok (.aload_n 0, 1) := by decide +kernel
theorem dX5_fault_1 : decode cX5_fault 1 = .ok (.getfield 12, 3) := by decide +kernel
theorem dX5_fault_4 : decode cX5_fault 4 = .ok (.aload_n 0, 1) := by decide +kernel
theorem dX5_fault_5 : decode cX5_fault 5 = .ok (.getfield 23, 3) := by decide +kernel
theorem dX5_fault_8 : decode cX5_fault 8 = .ok (.invokevirtual 55, 3) := by decide +kernel
theorem dX5_fault_11 : decode cX5_fault 11 = .ok (.ireturn, 1) := by decide +kernel
set_option maxRecDepth 20000 in
theorem ggX5_lay_X3_readInto : GoodIn wsX5_lay wsX3_readInto := goodIn_r _ [9, 10, 11, 12, 13, 14, 15, 16, 17, 18, 19, 20, 8, 21, 22, 23, 24, 25, 26, 27, 28, 29, 30, 31, 32, 33, 34, 35, 36, 37, 38, 39, 40, 41, 42, 43, 44, 45, 46, 47, 48, 49, 50, 51, 52, 53, 54, 55, 56, 57, 58, 59, 60, 61, 62, 63, 64, 65, 66, 67, 68, 69, 70, 71, 72, 73, 74, 75, 76, 77, 78, 79, 80, 81, 82, 83, 84, 85, 86, 87, 88, 89, 90, 91, 92, 93, 94, 95, 96, 97, 98, 99, 100, 101, 102, 103, 104, 105, 106, 107, 108, 109, 110, 111, 112, 113, 114, 115, 116, 117, 118, 119, 120, 121, 122, 123, 124, 125, 126, 127, 128, 129, 130, 131, 132, 133, 134, 135, 136, 137, 138, 139, 140, 141, 142, 143, 144, 145, 146, 171, 172, 168, 169, 170] (by decide +kernel) (by decide +kernel)
set_option maxRecDepth 20000 in
theorem gX5_lay_X3_readInto : GoodIn wsX5_lay (wsV RX5 55 RX3 yX3_readInto wsX3_readInto) := goodIn_app (goodIn_of _ (by decide +kernel)) ggX5_lay_X3_readInto
set_option maxRecDepth 20000 in
theorem ggX5_lay_X2_become : GoodIn wsX5_lay wsX2_become := goodIn_r _ [150, 16, 17, 39, 151, 152, 153, 154, 168, 169, 170] (by decide +kernel) (by decide +kernel)
set_option maxRecDepth 20000 in
theorem gX5_lay_X2_become : GoodIn wsX5_lay (wsV RX5 63 RX2 yX2_become wsX2_become) := goodIn_app (goodIn_of _ (by decide +kernel)) ggX5_lay_X2_become
set_option maxRecDepth 20000 in
theorem ggX5_lay_X1_forget : GoodIn wsX5_lay wsX1_forget := goodIn_r _ [159, 160, 173, 174] (by decide +kernel) (by decide +kernel)
set_option maxRecDepth 20000 in
theorem gX5_lay_X1_forget : GoodIn wsX5_lay (wsV RX5 67 RX1 yX1_forget wsX1_forget) := goodIn_app (goodIn_of _ (by decide +kernel)) ggX5_lay_X1_forget
set_option maxRecDepth 20000 in
theorem ggX5_lay_X2_cells : GoodIn wsX5_lay wsX2_cells := goodIn_r _ [43, 16, 17, 168, 169, 170] (by decide +kernel) (by decide +kernel)
set_option maxRecDepth 20000 in
theorem gX5_lay_X2_cells : GoodIn wsX5_lay (wsV RX5 70 RX2 yX2_cells wsX2_cells) := goodIn_app (goodIn_of _ (by decide +kernel)) ggX5_lay_X2_cells
theorem dX5_lay_0 : decode cX5_lay 0 = .ok (.aload_n 0, 1) := by decide +kernel
theorem dX5_lay_1 : decode cX5_lay 1 = .ok (.getfield 12, 3) := by decide +kernel
theorem dX5_lay_4 : decode cX5_lay 4 = .ok (.aload_n 0, 1) := by decide +kernel
theorem dX5_lay_5 : decode cX5_lay 5 = .ok (.getfield 23, 3) := by decide +kernel
theorem dX5_lay_8 : decode cX5_lay 8 = .ok (.invokevirtual 55, 3) := by decide +kernel
theorem dX5_lay_11 : decode cX5_lay 11 = .ok (.bipush (-4), 2) := by decide +kernel
theorem dX5_lay_13 : decode cX5_lay 13 = .ok (.if_icmp .ne 13, 3) := by decide +kernel
theorem dX5_lay_16 : decode cX5_lay 16 = .ok (.aload_n 0, 1) := by decide +kernel
theorem dX5_lay_17 : decode cX5_lay 17 = .ok (.getfield 23, 3) := by decide +kernel
theorem dX5_lay_20 : decode cX5_lay 20 = .ok (.getfield 59, 3) := by decide +kernel
theorem dX5_lay_23 : decode cX5_lay 23 = .ok (.ifCond .ne 6, 3) := by decide +kernel
theorem dX5_lay_26 : decode cX5_lay 26 = .ok (.bipush (-2), 2) := by decide +kernel
theorem dX5_lay_28 : decode cX5_lay 28 = .ok (.ireturn, 1) := by decide +kernel
theorem dX5_lay_29 : decode cX5_lay 29 = .ok (.aload_n 0, 1) := by decide +kernel
theorem dX5_lay_30 : decode cX5_lay 30 = .ok (.getfield 19, 3) := by decide +kernel
theorem dX5_lay_33 : decode cX5_lay 33 = .ok (.aload_n 0, 1) := by decide +kernel
theorem dX5_lay_34 : decode cX5_lay 34 = .ok (.getfield 23, 3) := by decide +kernel
theorem dX5_lay_37 : decode cX5_lay 37 = .ok (.invokevirtual 63, 3) := by decide +kernel
theorem dX5_lay_40 : decode cX5_lay 40 = .ok (.aload_n 0, 1) := by decide +kernel
theorem dX5_lay_41 : decode cX5_lay 41 = .ok (.getfield 29, 3) := by decide +kernel
theorem dX5_lay_44 : decode cX5_lay 44 = .ok (.invokevirtual 67, 3) := by decide +kernel
theorem dX5_lay_47 : decode cX5_lay 47 = .ok (.aload_n 0, 1) := by decide +kernel
theorem dX5_lay_48 : decode cX5_lay 48 = .ok (.getfield 19, 3) := by decide +kernel
theorem dX5_lay_51 : decode cX5_lay 51 = .ok (.invokevirtual 70, 3) := by decide +kernel
theorem dX5_lay_54 : decode cX5_lay 54 = .ok (.ireturn, 1) := by decide +kernel
set_option maxRecDepth 20000 in
theorem ggX5_put_X2_kindAt : GoodIn wsX5_put wsX2_kindAt := goodIn_r _ [7, 8, 9, 10, 11, 6, 12, 13, 14, 64, 65, 66] (by decide +kernel) (by decide +kernel)
set_option maxRecDepth 20000 in
theorem gX5_put_X2_kindAt : GoodIn wsX5_put (wsV RX5 73 RX2 yX2_kindAt wsX2_kindAt) := goodIn_app (goodIn_of _ (by decide +kernel)) ggX5_put_X2_kindAt
set_option maxRecDepth 20000 in
theorem ggX5_put_X5_tryCell : GoodIn wsX5_put wsX5_tryCell := goodIn_r _ [19, 2, 1, 20, 21, 22, 6, 23, 13, 14, 8, 24, 25, 26, 27, 28, 29, 30, 31, 9, 10, 11, 12, 58, 59, 60, 61, 62, 63, 64, 65, 66] (by decide +kernel) (by decide +kernel)
set_option maxRecDepth 20000 in
theorem gX5_put_X5_tryCell : GoodIn wsX5_put (wsV RX5 76 RX5 yX5_tryCell wsX5_tryCell) := goodIn_app (goodIn_of _ (by decide +kernel)) ggX5_put_X5_tryCell
set_option maxRecDepth 20000 in
theorem ggX5_put_X2_isOverfull : GoodIn wsX5_put wsX2_isOverfull := goodIn_r _ [35, 36, 37, 38, 6, 39, 9, 10, 11, 12, 13, 14, 40, 4, 5, 7, 8, 64, 65, 66] (by decide +kernel) (by decide +kernel)
set_option maxRecDepth 20000 in
theorem gX5_put_X2_isOverfull : GoodIn wsX5_put (wsV RX5 80 RX2 yX2_isOverfull wsX2_isOverfull) := goodIn_app (goodIn_of _ (by decide +kernel)) ggX5_put_X2_isOverfull
set_option maxRecDepth 20000 in
theorem ggX5_put_X5_change : GoodIn wsX5_put wsX5_change := goodIn_r _ [44, 45, 1, 46, 47, 48, 49, 50, 51, 52, 53, 54, 55, 56, 57, 25, 26, 27, 28, 29, 30, 6, 31, 8, 9, 10, 11, 12, 13, 14, 58, 59, 60, 61, 62, 63, 67, 68, 64, 65, 66] (by decide +kernel) (by decide +kernel)
set_option maxRecDepth 20000 in
theorem gX5_put_X5_change : GoodIn wsX5_put (wsV RX5 84 RX5 yX5_change wsX5_change) := goodIn_app (goodIn_of _ (by decide +kernel)) ggX5_put_X5_change
theorem dX5_put_0 : decode cX5_put 0 = .ok (.aload_n 0, 1) := by decide +kernel
theorem dX5_put_1 : decode cX5_put 1 = .ok (.getfield 19, 3) := by decide +kernel
theorem dX5_put_4 : decode cX5_put 4 = .ok (.iload_n 1, 1) := by decide +kernel
theorem dX5_put_5 : decode cX5_put 5 = .ok (.invokevirtual 73, 3) := by decide +kernel
theorem dX5_put_8 : decode cX5_put 8 = .ok (.istore_n 3, 1) := by decide +kernel
theorem dX5_put_9 : decode cX5_put 9 = .ok (.iload_n 3, 1) := by decide +kernel
theorem dX5_put_10 : decode cX5_put 10 = .ok (.iconst (-1), 1) := by decide +kernel
theorem dX5_put_11 : decode cX5_put 11 = .ok (.if_icmp .eq 13, 3) := by decide +kernel
theorem dX5_put_14 : decode cX5_put 14 = .ok (.iload_n 2, 1) := by decide +kernel
theorem dX5_put_15 : decode cX5_put 15 = .ok (.ifCond .lt 9, 3) := by decide +kernel
theorem dX5_put_18 : decode cX5_put 18 = .ok (.iload_n 2, 1) := by decide +kernel
theorem dX5_put_19 : decode cX5_put 19 = .ok (.bipush 7, 2) := by decide +kernel
theorem dX5_put_21 : decode cX5_put 21 = .ok (.if_icmp .le 5, 3) := by decide +kernel
theorem dX5_put_24 : decode cX5_put 24 = .ok (.iconst (-1), 1) := by decide +kernel
theorem dX5_put_25 : decode cX5_put 25 = .ok (.ireturn, 1) := by decide +kernel
theorem dX5_put_26 : decode cX5_put 26 = .ok (.iload_n 3, 1) := by decide +kernel
theorem dX5_put_27 : decode cX5_put 27 = .ok (.iload_n 2, 1) := by decide +kernel
theorem dX5_put_28 : decode cX5_put 28 = .ok (.if_icmp .ne 6, 3) := by decide +kernel
theorem dX5_put_31 : decode cX5_put 31 = .ok (.bipush (-2), 2) := by decide +kernel
theorem dX5_put_33 : decode cX5_put 33 = .ok (.ireturn, 1) := by decide +kernel
theorem dX5_put_34 : decode cX5_put 34 = .ok (.aload_n 0, 1) := by decide +kernel
theorem dX5_put_35 : decode cX5_put 35 = .ok (.iload_n 1, 1) := by decide +kernel
theorem dX5_put_36 : decode cX5_put 36 = .ok (.iload_n 2, 1) := by decide +kernel
theorem dX5_put_37 : decode cX5_put 37 = .ok (.invokevirtual 76, 3) := by decide +kernel
theorem dX5_put_40 : decode cX5_put 40 = .ok (.aload_n 0, 1) := by decide +kernel
theorem dX5_put_41 : decode cX5_put 41 = .ok (.getfield 23, 3) := by decide +kernel
theorem dX5_put_44 : decode cX5_put 44 = .ok (.invokevirtual 80, 3) := by decide +kernel
theorem dX5_put_47 : decode cX5_put 47 = .ok (.ifCond .eq 6, 3) := by decide +kernel
theorem dX5_put_50 : decode cX5_put 50 = .ok (.bipush (-3), 2) := by decide +kernel
theorem dX5_put_52 : decode cX5_put 52 = .ok (.ireturn, 1) := by decide +kernel
theorem dX5_put_53 : decode cX5_put 53 = .ok (.aload_n 0, 1) := by decide +kernel
theorem dX5_put_54 : decode cX5_put 54 = .ok (.iload_n 1, 1) := by decide +kernel
theorem dX5_put_55 : decode cX5_put 55 = .ok (.iload_n 3, 1) := by decide +kernel
theorem dX5_put_56 : decode cX5_put 56 = .ok (.iload_n 2, 1) := by decide +kernel
theorem dX5_put_57 : decode cX5_put 57 = .ok (.invokevirtual 84, 3) := by decide +kernel
theorem dX5_put_60 : decode cX5_put 60 = .ok (.iload_n 3, 1) := by decide +kernel
theorem dX5_put_61 : decode cX5_put 61 = .ok (.ireturn, 1) := by decide +kernel
set_option maxRecDepth 20000 in
theorem ggX5_door_X2_doorCell : GoodIn wsX5_door wsX2_doorCell := goodIn_r _ [6, 7, 8, 9, 5, 10, 11, 12, 13, 14, 15, 16, 17, 57, 58, 59] (by decide +kernel) (by decide +kernel)
set_option maxRecDepth 20000 in
theorem gX5_door_X2_doorCell : GoodIn wsX5_door (wsV RX5 88 RX2 yX2_doorCell wsX2_doorCell) := goodIn_app (goodIn_of _ (by decide +kernel)) ggX5_door_X2_doorCell
set_option maxRecDepth 20000 in
theorem ggX5_door_X5_isPart : GoodIn wsX5_door wsX5_isPart := goodIn_r _ [21] (by decide +kernel) (by decide +kernel)
set_option maxRecDepth 20000 in
theorem gX5_door_X5_isPart : GoodIn wsX5_door (va_wsS RX5 91 yX5_isPart wsX5_isPart) := goodIn_app (goodIn_of _ (by decide +kernel)) ggX5_door_X5_isPart
set_option maxRecDepth 20000 in
theorem ggX5_door_X2_kindAt : GoodIn wsX5_door wsX2_kindAt := goodIn_r _ [16, 17, 7, 8, 9, 5, 10, 11, 12, 57, 58, 59] (by decide +kernel) (by decide +kernel)
set_option maxRecDepth 20000 in
theorem gX5_door_X2_kindAt : GoodIn wsX5_door (wsV RX5 73 RX2 yX2_kindAt wsX2_kindAt) := goodIn_app (goodIn_of _ (by decide +kernel)) ggX5_door_X2_kindAt
set_option maxRecDepth 20000 in
theorem ggX5_door_X5_change : GoodIn wsX5_door wsX5_change := goodIn_r _ [26, 27, 1, 28, 29, 30, 31, 32, 33, 34, 35, 36, 37, 38, 39, 40, 41, 42, 43, 44, 45, 5, 46, 17, 7, 8, 9, 10, 11, 12, 51, 52, 53, 54, 55, 56, 60, 61, 57, 58, 59] (by decide +kernel) (by decide +kernel)
set_option maxRecDepth 20000 in
theorem gX5_door_X5_change : GoodIn wsX5_door (wsV RX5 84 RX5 yX5_change wsX5_change) := goodIn_app (goodIn_of _ (by decide +kernel)) ggX5_door_X5_change
set_option maxRecDepth 20000 in
theorem ggX5_door_X2_countKinds : GoodIn wsX5_door wsX2_countKinds := goodIn_r _ [50, 7, 8, 9, 5, 10, 11, 12, 13, 14, 15, 16, 17, 57, 58, 59] (by decide +kernel) (by decide +kernel)
set_option maxRecDepth 20000 in
theorem gX5_door_X2_countKinds : GoodIn wsX5_door (wsV RX5 95 RX2 yX2_countKinds wsX2_countKinds) := goodIn_app (goodIn_of _ (by decide +kernel)) ggX5_door_X2_countKinds
theorem dX5_door_0 : decode cX5_door 0 = .ok (.aload_n 0, 1) := by decide +kernel
theorem dX5_door_1 : decode cX5_door 1 = .ok (.getfield 19, 3) := by decide +kernel
theorem dX5_door_4 : decode cX5_door 4 = .ok (.iload_n 1, 1) := by decide +kernel
theorem dX5_door_5 : decode cX5_door 5 = .ok (.invokevirtual 88, 3) := by decide +kernel
theorem dX5_door_8 : decode cX5_door 8 = .ok (.istore_n 3, 1) := by decide +kernel
theorem dX5_door_9 : decode cX5_door 9 = .ok (.iload_n 3, 1) := by decide +kernel
theorem dX5_door_10 : decode cX5_door 10 = .ok (.iconst (-1), 1) := by decide +kernel
theorem dX5_door_11 : decode cX5_door 11 = .ok (.if_icmp .eq 11, 3) := by decide +kernel
theorem dX5_door_14 : decode cX5_door 14 = .ok (.iload_n 2, 1) := by decide +kernel
theorem dX5_door_15 : decode cX5_door 15 = .ok (.iconst 2, 1) := by decide +kernel
theorem dX5_door_16 : decode cX5_door 16 = .ok (.invokestatic 91, 3) := by decide +kernel
theorem dX5_door_19 : decode cX5_door 19 = .ok (.ifCond .ne 5, 3) := by decide +kernel
theorem dX5_door_22 : decode cX5_door 22 = .ok (.iconst (-1), 1) := by decide +kernel
theorem dX5_door_23 : decode cX5_door 23 = .ok (.ireturn, 1) := by decide +kernel
theorem dX5_door_24 : decode cX5_door 24 = .ok (.aload_n 0, 1) := by decide +kernel
theorem dX5_door_25 : decode cX5_door 25 = .ok (.getfield 19, 3) := by decide +kernel
theorem dX5_door_28 : decode cX5_door 28 = .ok (.iload_n 3, 1) := by decide +kernel
theorem dX5_door_29 : decode cX5_door 29 = .ok (.invokevirtual 73, 3) := by decide +kernel
theorem dX5_door_32 : decode cX5_door 32 = .ok (.istore 4, 2) := by decide +kernel
theorem dX5_door_34 : decode cX5_door 34 = .ok (.iload_n 2, 1) := by decide +kernel
theorem dX5_door_35 : decode cX5_door 35 = .ok (.iconst 1, 1) := by decide +kernel
theorem dX5_door_36 : decode cX5_door 36 = .ok (.if_icmp .ne 8, 3) := by decide +kernel
theorem dX5_door_39 : decode cX5_door 39 = .ok (.bipush 6, 2) := by decide +kernel
theorem dX5_door_41 : decode cX5_door 41 = .ok (.goto 5, 3) := by decide +kernel
theorem dX5_door_44 : decode cX5_door 44 = .ok (.bipush 7, 2) := by decide +kernel
theorem dX5_door_46 : decode cX5_door 46 = .ok (.istore 5, 2) := by decide +kernel
theorem dX5_door_48 : decode cX5_door 48 = .ok (.iload 4, 2) := by decide +kernel
theorem dX5_door_50 : decode cX5_door 50 = .ok (.iload 5, 2) := by decide +kernel
theorem dX5_door_52 : decode cX5_door 52 = .ok (.if_icmp .ne 6, 3) := by decide +kernel
theorem dX5_door_55 : decode cX5_door 55 = .ok (.bipush (-2), 2) := by decide +kernel
theorem dX5_door_57 : decode cX5_door 57 = .ok (.ireturn, 1) := by decide +kernel
theorem dX5_door_58 : decode cX5_door 58 = .ok (.aload_n 0, 1) := by decide +kernel
theorem dX5_door_59 : decode cX5_door 59 = .ok (.iload_n 3, 1) := by decide +kernel
theorem dX5_door_60 : decode cX5_door 60 = .ok (.iload 4, 2) := by decide +kernel
theorem dX5_door_62 : decode cX5_door 62 = .ok (.iload 5, 2) := by decide +kernel
theorem dX5_door_64 : decode cX5_door 64 = .ok (.invokevirtual 84, 3) := by decide +kernel
theorem dX5_door_67 : decode cX5_door 67 = .ok (.aload_n 0, 1) := by decide +kernel
theorem dX5_door_68 : decode cX5_door 68 = .ok (.getfield 19, 3) := by decide +kernel
theorem dX5_door_71 : decode cX5_door 71 = .ok (.bipush 6, 2) := by decide +kernel
theorem dX5_door_73 : decode cX5_door 73 = .ok (.bipush 6, 2) := by decide +kernel
theorem dX5_door_75 : decode cX5_door 75 = .ok (.invokevirtual 95, 3) := by decide +kernel
theorem dX5_door_78 : decode cX5_door 78 = .ok (.ireturn, 1) := by decide +kernel
set_option maxRecDepth 20000 in
theorem ggX5_turn_X5_turnRoom : GoodIn wsX5_turn wsX5_turnRoom := goodIn_r _ [7, 8, 1, 9, 10, 11, 12, 13, 14, 15, 16, 17, 18, 19, 20, 21, 22, 23, 24, 25, 26, 27, 28, 29, 30, 31, 32, 33, 34, 35, 36, 37, 38, 39, 52, 53, 54, 55, 56, 57, 58, 59, 60] (by decide +kernel) (by decide +kernel)
set_option maxRecDepth 20000 in
theorem gX5_turn_X5_turnRoom : GoodIn wsX5_turn (wsV RX5 102 RX5 yX5_turnRoom wsX5_turnRoom) := goodIn_app (goodIn_of _ (by decide +kernel)) ggX5_turn_X5_turnRoom
set_option maxRecDepth 20000 in
theorem ggX5_turn_X1_rememberTurn : GoodIn wsX5_turn wsX1_rememberTurn := goodIn_r _ [44, 45, 46, 47, 43, 48, 49, 50, 51, 37, 38, 39, 61, 62] (by decide +kernel) (by decide +kernel)
set_option maxRecDepth 20000 in
theorem gX5_turn_X1_rememberTurn : GoodIn wsX5_turn (wsV RX5 105 RX1 yX1_rememberTurn wsX1_rememberTurn) := goodIn_app (goodIn_of _ (by decide +kernel)) ggX5_turn_X1_rememberTurn
theorem dX5_turn_0 : decode cX5_turn 0 = .ok (.aload_n 0, 1) := by decide +kernel
theorem dX5_turn_1 : decode cX5_turn 1 = .ok (.getfield 19, 3) := by decide +kernel
theorem dX5_turn_4 : decode cX5_turn 4 = .ok (.getfield 59, 3) := by decide +kernel
theorem dX5_turn_7 : decode cX5_turn 7 = .ok (.iconst 2, 1) := by decide +kernel
theorem dX5_turn_8 : decode cX5_turn 8 = .ok (.if_icmp .lt 14, 3) := by decide +kernel
theorem dX5_turn_11 : decode cX5_turn 11 = .ok (.aload_n 0, 1) := by decide +kernel
theorem dX5_turn_12 : decode cX5_turn 12 = .ok (.getfield 19, 3) := by decide +kernel
theorem dX5_turn_15 : decode cX5_turn 15 = .ok (.getfield 99, 3) := by decide +kernel
theorem dX5_turn_18 : decode cX5_turn 18 = .ok (.iconst 4, 1) := by decide +kernel
theorem dX5_turn_19 : decode cX5_turn 19 = .ok (.if_icmp .le 6, 3) := by decide +kernel
theorem dX5_turn_22 : decode cX5_turn 22 = .ok (.bipush (-2), 2) := by decide +kernel
theorem dX5_turn_24 : decode cX5_turn 24 = .ok (.ireturn, 1) := by decide +kernel
theorem dX5_turn_25 : decode cX5_turn 25 = .ok (.aload_n 0, 1) := by decide +kernel
theorem dX5_turn_26 : decode cX5_turn 26 = .ok (.invokevirtual 102, 3) := by decide +kernel
theorem dX5_turn_29 : decode cX5_turn 29 = .ok (.aload_n 0, 1) := by decide +kernel
theorem dX5_turn_30 : decode cX5_turn 30 = .ok (.getfield 29, 3) := by decide +kernel
theorem dX5_turn_33 : decode cX5_turn 33 = .ok (.invokevirtual 105, 3) := by decide +kernel
theorem dX5_turn_36 : decode cX5_turn 36 = .ok (.aload_n 0, 1) := by decide +kernel
theorem dX5_turn_37 : decode cX5_turn 37 = .ok (.getfield 19, 3) := by decide +kernel
theorem dX5_turn_40 : decode cX5_turn 40 = .ok (.getfield 99, 3) := by decide +kernel
theorem dX5_turn_43 : decode cX5_turn 43 = .ok (.ireturn, 1) := by decide +kernel
set_option maxRecDepth 20000 in
theorem ggX5_undo_X1_takeLatest : GoodIn wsX5_undo wsX1_takeLatest := goodIn_r _ [7, 8, 9, 60, 61] (by decide +kernel) (by decide +kernel)
set_option maxRecDepth 20000 in
theorem gX5_undo_X1_takeLatest : GoodIn wsX5_undo (wsV RX5 111 RX1 yX1_takeLatest wsX1_takeLatest) := goodIn_app (goodIn_of _ (by decide +kernel)) ggX5_undo_X1_takeLatest
set_option maxRecDepth 20000 in
theorem ggX5_undo_X5_turnRoom : GoodIn wsX5_undo wsX5_turnRoom := goodIn_r _ [14, 15, 2, 16, 17, 18, 19, 20, 21, 22, 23, 24, 25, 26, 27, 28, 29, 30, 31, 32, 33, 34, 35, 36, 37, 38, 39, 40, 41, 42, 43, 44, 45, 46, 54, 55, 56, 57, 58, 59, 62, 63, 64] (by decide +kernel) (by decide +kernel)
set_option maxRecDepth 20000 in
theorem gX5_undo_X5_turnRoom : GoodIn wsX5_undo (wsV RX5 102 RX5 yX5_turnRoom wsX5_turnRoom) := goodIn_app (goodIn_of _ (by decide +kernel)) ggX5_undo_X5_turnRoom
set_option maxRecDepth 20000 in
theorem ggX5_undo_X1_cellOf : GoodIn wsX5_undo wsX1_cellOf := goodIn_r _ [49] (by decide +kernel) (by decide +kernel)
set_option maxRecDepth 20000 in
theorem gX5_undo_X1_cellOf : GoodIn wsX5_undo (va_wsS RX5 114 yX1_cellOf wsX1_cellOf) := goodIn_app (goodIn_of _ (by decide +kernel)) ggX5_undo_X1_cellOf
set_option maxRecDepth 20000 in
theorem ggX5_undo_X1_kindOf : GoodIn wsX5_undo wsX1_kindOf := goodIn_r _ [52] (by decide +kernel) (by decide +kernel)
set_option maxRecDepth 20000 in
theorem gX5_undo_X1_kindOf : GoodIn wsX5_undo (va_wsS RX5 117 yX1_kindOf wsX1_kindOf) := goodIn_app (goodIn_of _ (by decide +kernel)) ggX5_undo_X1_kindOf
set_option maxRecDepth 20000 in
theorem ggX5_undo_X2_tell : GoodIn wsX5_undo wsX2_tell := goodIn_r _ [38, 27, 28, 29, 30, 19, 31, 22, 21, 62, 63, 64] (by decide +kernel) (by decide +kernel)
set_option maxRecDepth 20000 in
theorem gX5_undo_X2_tell : GoodIn wsX5_undo (wsV RX5 120 RX2 yX2_tell wsX2_tell) := goodIn_app (goodIn_of _ (by decide +kernel)) ggX5_undo_X2_tell
theorem dX5_undo_0 : decode cX5_undo 0 = .ok (.aload_n 0, 1) := by decide +kernel
theorem dX5_undo_1 : decode cX5_undo 1 = .ok (.getfield 29, 3) := by decide +kernel
theorem dX5_undo_4 : decode cX5_undo 4 = .ok (.getfield 108, 3) := by decide +kernel
theorem dX5_undo_7 : decode cX5_undo 7 = .ok (.ifCond .ne 6, 3) := by decide +kernel
theorem dX5_undo_10 : decode cX5_undo 10 = .ok (.bipush (-2), 2) := by decide +kernel
theorem dX5_undo_12 : decode cX5_undo 12 = .ok (.ireturn, 1) := by decide +kernel
theorem dX5_undo_13 : decode cX5_undo 13 = .ok (.aload_n 0, 1) := by decide +kernel
theorem dX5_undo_14 : decode cX5_undo 14 = .ok (.getfield 29, 3) := by decide +kernel
theorem dX5_undo_17 : decode cX5_undo 17 = .ok (.invokevirtual 111, 3) := by decide +kernel
theorem dX5_undo_20 : decode cX5_undo 20 = .ok (.istore_n 1, 1) := by decide +kernel
theorem dX5_undo_21 : decode cX5_undo 21 = .ok (.iload_n 1, 1) := by decide +kernel
theorem dX5_undo_22 : decode cX5_undo 22 = .ok (.iconst (-1), 1) := by decide +kernel
theorem dX5_undo_23 : decode cX5_undo 23 = .ok (.if_icmp .ne 18, 3) := by decide +kernel
theorem dX5_undo_26 : decode cX5_undo 26 = .ok (.aload_n 0, 1) := by decide +kernel
theorem dX5_undo_27 : decode cX5_undo 27 = .ok (.invokevirtual 102, 3) := by decide +kernel
theorem dX5_undo_30 : decode cX5_undo 30 = .ok (.aload_n 0, 1) := by decide +kernel
theorem dX5_undo_31 : decode cX5_undo 31 = .ok (.invokevirtual 102, 3) := by decide +kernel
theorem dX5_undo_34 : decode cX5_undo 34 = .ok (.aload_n 0, 1) := by decide +kernel
theorem dX5_undo_35 : decode cX5_undo 35 = .ok (.invokevirtual 102, 3) := by decide +kernel
theorem dX5_undo_38 : decode cX5_undo 38 = .ok (.goto 18, 3) := by decide +kernel
theorem dX5_undo_41 : decode cX5_undo 41 = .ok (.aload_n 0, 1) := by decide +kernel
theorem dX5_undo_42 : decode cX5_undo 42 = .ok (.getfield 19, 3) := by decide +kernel
theorem dX5_undo_45 : decode cX5_undo 45 = .ok (.iload_n 1, 1) := by decide +kernel
theorem dX5_undo_46 : decode cX5_undo 46 = .ok (.invokestatic 114, 3) := by decide +kernel
theorem dX5_undo_49 : decode cX5_undo 49 = .ok (.iload_n 1, 1) := by decide +kernel
theorem dX5_undo_50 : decode cX5_undo 50 = .ok (.invokestatic 117, 3) := by decide +kernel
theorem dX5_undo_53 : decode cX5_undo 53 = .ok (.invokevirtual 120, 3) := by decide +kernel
theorem dX5_undo_56 : decode cX5_undo 56 = .ok (.aload_n 0, 1) := by decide +kernel
theorem dX5_undo_57 : decode cX5_undo 57 = .ok (.getfield 29, 3) := by decide +kernel
theorem dX5_undo_60 : decode cX5_undo 60 = .ok (.getfield 108, 3) := by decide +kernel
theorem dX5_undo_63 : decode cX5_undo 63 = .ok (.ireturn, 1) := by decide +kernel
set_option maxRecDepth 20000 in
theorem ggX5_change_X1_rememberKind : GoodIn wsX5_change wsX1_rememberKind := goodIn_r _ [7, 8, 9, 10, 6, 11, 12, 13, 14, 15, 16, 17, 36, 37] (by decide +kernel) (by decide +kernel)
set_option maxRecDepth 20000 in
theorem gX5_change_X1_rememberKind : GoodIn wsX5_change (wsV RX5 123 RX1 yX1_rememberKind wsX1_rememberKind) := goodIn_app (goodIn_of _ (by decide +kernel)) ggX5_change_X1_rememberKind
set_option maxRecDepth 20000 in
theorem ggX5_change_X2_tell : GoodIn wsX5_change wsX2_tell := goodIn_r _ [22, 23, 24, 25, 26, 21, 27, 28, 29, 38, 39, 40] (by decide +kernel) (by decide +kernel)
set_option maxRecDepth 20000 in
theorem gX5_change_X2_tell : GoodIn wsX5_change (wsV RX5 120 RX2 yX2_tell wsX2_tell) := goodIn_app (goodIn_of _ (by decide +kernel)) ggX5_change_X2_tell
theorem dX5_change_0 : decode cX5_change 0 = .ok (.aload_n 0, 1) := by decide +kernel
theorem dX5_change_1 : decode cX5_change 1 = .ok (.getfield 29, 3) := by decide +kernel
theorem dX5_change_4 : decode cX5_change 4 = .ok (.iload_n 1, 1) := by decide +kernel
theorem dX5_change_5 : decode cX5_change 5 = .ok (.iload_n 2, 1) := by decide +kernel
theorem dX5_change_6 : decode cX5_change 6 = .ok (.invokevirtual 123, 3) := by decide +kernel
theorem dX5_change_9 : decode cX5_change 9 = .ok (.aload_n 0, 1) := by decide +kernel
theorem dX5_change_10 : decode cX5_change 10 = .ok (.getfield 19, 3) := by decide +kernel
theorem dX5_change_13 : decode cX5_change 13 = .ok (.iload_n 1, 1) := by decide +kernel
theorem dX5_change_14 : decode cX5_change 14 = .ok (.iload_n 3, 1) := by decide +kernel
theorem dX5_change_15 : decode cX5_change 15 = .ok (.invokevirtual 120, 3) := by decide +kernel
theorem dX5_change_18 : decode cX5_change 18 = .ok (.return_, 1) := by decide +kernel
set_option maxRecDepth 20000 in
theorem ggX5_turnRoom_X2_becomeTurned : GoodIn wsX5_turnRoom wsX2_becomeTurned := goodIn_r _ [7, 8, 9, 10, 11, 12, 6, 13, 14, 15, 16, 17, 18, 19, 20, 21, 22, 23, 24, 25, 40, 41, 42] (by decide +kernel) (by decide +kernel)
set_option maxRecDepth 20000 in
theorem gX5_turnRoom_X2_becomeTurned : GoodIn wsX5_turnRoom (wsV RX5 126 RX2 yX2_becomeTurned wsX2_becomeTurned) := goodIn_app (goodIn_of _ (by decide +kernel)) ggX5_turnRoom_X2_becomeTurned
set_option maxRecDepth 20000 in
theorem ggX5_turnRoom_X2_become : GoodIn wsX5_turnRoom wsX2_become := goodIn_r _ [29, 9, 8, 14, 30, 31, 32, 33, 40, 41, 42] (by decide +kernel) (by decide +kernel)
set_option maxRecDepth 20000 in
theorem gX5_turnRoom_X2_become : GoodIn wsX5_turnRoom (wsV RX5 63 RX2 yX2_become wsX2_become) := goodIn_app (goodIn_of _ (by decide +kernel)) ggX5_turnRoom_X2_become
theorem dX5_turnRoom_0 : decode cX5_turnRoom 0 = .ok (.aload_n 0, 1) := by decide +kernel
theorem dX5_turnRoom_1 : decode cX5_turnRoom 1 = .ok (.getfield 23, 3) := by decide +kernel
theorem dX5_turnRoom_4 : decode cX5_turnRoom 4 = .ok (.aload_n 0, 1) := by decide +kernel
theorem dX5_turnRoom_5 : decode cX5_turnRoom 5 = .ok (.getfield 19, 3) := by decide +kernel
theorem dX5_turnRoom_8 : decode cX5_turnRoom 8 = .ok (.invokevirtual 126, 3) := by decide +kernel
theorem dX5_turnRoom_11 : decode cX5_turnRoom 11 = .ok (.aload_n 0, 1) := by decide +kernel
theorem dX5_turnRoom_12 : decode cX5_turnRoom 12 = .ok (.getfield 19, 3) := by decide +kernel
theorem dX5_turnRoom_15 : decode cX5_turnRoom 15 = .ok (.aload_n 0, 1) := by decide +kernel
theorem dX5_turnRoom_16 : decode cX5_turnRoom 16 = .ok (.getfield 23, 3) := by decide +kernel
theorem dX5_turnRoom_19 : decode cX5_turnRoom 19 = .ok (.invokevirtual 63, 3) := by decide +kernel
theorem dX5_turnRoom_22 : decode cX5_turnRoom 22 = .ok (.return_, 1) := by decide +kernel
set_option maxRecDepth 20000 in
theorem ggX5_cell_X2_kindAt : GoodIn wsX5_cell wsX2_kindAt := goodIn_r _ [6, 7, 8, 9, 10, 5, 11, 12, 13, 20, 21, 22] (by decide +kernel) (by decide +kernel)
set_option maxRecDepth 20000 in
theorem gX5_cell_X2_kindAt : GoodIn wsX5_cell (wsV RX5 73 RX2 yX2_kindAt wsX2_kindAt) := goodIn_app (goodIn_of _ (by decide +kernel)) ggX5_cell_X2_kindAt
theorem dX5_cell_0 : decode cX5_cell 0 = .ok (.aload_n 0, 1) := by decide +kernel
theorem dX5_cell_1 : decode cX5_cell 1 = .ok (.getfield 19, 3) := by decide +kernel
theorem dX5_cell_4 : decode cX5_cell 4 = .ok (.iload_n 1, 1) := by decide +kernel
theorem dX5_cell_5 : decode cX5_cell 5 = .ok (.invokevirtual 73, 3) := by decide +kernel
theorem dX5_cell_8 : decode cX5_cell 8 = .ok (.ireturn, 1) := by decide +kernel
set_option maxRecDepth 20000 in
theorem ggX5_doorAt_X2_doorCell : GoodIn wsX5_doorAt wsX2_doorCell := goodIn_r _ [6, 7, 8, 9, 5, 10, 11, 12, 13, 14, 15, 16, 17, 24, 25, 26] (by decide +kernel) (by decide +kernel)
set_option maxRecDepth 20000 in
theorem gX5_doorAt_X2_doorCell : GoodIn wsX5_doorAt (wsV RX5 88 RX2 yX2_doorCell wsX2_doorCell) := goodIn_app (goodIn_of _ (by decide +kernel)) ggX5_doorAt_X2_doorCell
theorem dX5_doorAt_0 : decode cX5_doorAt 0 = .ok (.aload_n 0, 1) := by decide +kernel
theorem dX5_doorAt_1 : decode cX5_doorAt 1 = .ok (.getfield 19, 3) := by decide +kernel
theorem dX5_doorAt_4 : decode cX5_doorAt 4 = .ok (.iload_n 1, 1) := by decide +kernel
theorem dX5_doorAt_5 : decode cX5_doorAt 5 = .ok (.invokevirtual 88, 3) := by decide +kernel
theorem dX5_doorAt_8 : decode cX5_doorAt 8 = .ok (.ireturn, 1) := by decide +kernel
set_option maxRecDepth 20000 in
theorem ggX5_port_X2_hasPort : GoodIn wsX5_port wsX2_hasPort := goodIn_r _ [6, 7, 8, 9, 5, 10, 11, 12, 32, 33, 34] (by decide +kernel) (by decide +kernel)
set_option maxRecDepth 20000 in
theorem gX5_port_X2_hasPort : GoodIn wsX5_port (wsV RX5 129 RX2 yX2_hasPort wsX2_hasPort) := goodIn_app (goodIn_of _ (by decide +kernel)) ggX5_port_X2_hasPort
set_option maxRecDepth 20000 in
theorem ggX5_port_X5_isPart : GoodIn wsX5_port wsX5_isPart := goodIn_r _ [16] (by decide +kernel) (by decide +kernel)
set_option maxRecDepth 20000 in
theorem gX5_port_X5_isPart : GoodIn wsX5_port (va_wsS RX5 91 yX5_isPart wsX5_isPart) := goodIn_app (goodIn_of _ (by decide +kernel)) ggX5_port_X5_isPart
set_option maxRecDepth 20000 in
theorem ggX5_port_X2_portCell : GoodIn wsX5_port wsX2_portCell := goodIn_r _ [20, 11, 12, 21, 22, 23, 5, 24, 32, 33, 34] (by decide +kernel) (by decide +kernel)
set_option maxRecDepth 20000 in
theorem gX5_port_X2_portCell : GoodIn wsX5_port (wsV RX5 133 RX2 yX2_portCell wsX2_portCell) := goodIn_app (goodIn_of _ (by decide +kernel)) ggX5_port_X2_portCell
set_option maxRecDepth 20000 in
theorem ggX5_port_X2_portDirection : GoodIn wsX5_port wsX2_portDirection := goodIn_r _ [24, 11, 12, 32, 33, 34] (by decide +kernel) (by decide +kernel)
set_option maxRecDepth 20000 in
theorem gX5_port_X2_portDirection : GoodIn wsX5_port (wsV RX5 136 RX2 yX2_portDirection wsX2_portDirection) := goodIn_app (goodIn_of _ (by decide +kernel)) ggX5_port_X2_portDirection
theorem dX5_port_0 : decode cX5_port 0 = .ok (.aload_n 0, 1) := by decide +kernel
theorem dX5_port_1 : decode cX5_port 1 = .ok (.getfield 19, 3) := by decide +kernel
theorem dX5_port_4 : decode cX5_port 4 = .ok (.iload_n 1, 1) := by decide +kernel
theorem dX5_port_5 : decode cX5_port 5 = .ok (.invokevirtual 129, 3) := by decide +kernel
theorem dX5_port_8 : decode cX5_port 8 = .ok (.ifCond .eq 11, 3) := by decide +kernel
theorem dX5_port_11 : decode cX5_port 11 = .ok (.iload_n 2, 1) := by decide +kernel
theorem dX5_port_12 : decode cX5_port 12 = .ok (.iconst 2, 1) := by decide +kernel
theorem dX5_port_13 : decode cX5_port 13 = .ok (.invokestatic 91, 3) := by decide +kernel
theorem dX5_port_16 : decode cX5_port 16 = .ok (.ifCond .ne 5, 3) := by decide +kernel
theorem dX5_port_19 : decode cX5_port 19 = .ok (.iconst (-1), 1) := by decide +kernel
theorem dX5_port_20 : decode cX5_port 20 = .ok (.ireturn, 1) := by decide +kernel
theorem dX5_port_21 : decode cX5_port 21 = .ok (.iload_n 2, 1) := by decide +kernel
theorem dX5_port_22 : decode cX5_port 22 = .ok (.ifCond .ne 14, 3) := by decide +kernel
theorem dX5_port_25 : decode cX5_port 25 = .ok (.aload_n 0, 1) := by decide +kernel
theorem dX5_port_26 : decode cX5_port 26 = .ok (.getfield 19, 3) := by decide +kernel
theorem dX5_port_29 : decode cX5_port 29 = .ok (.iload_n 1, 1) := by decide +kernel
theorem dX5_port_30 : decode cX5_port 30 = .ok (.invokevirtual 133, 3) := by decide +kernel
theorem dX5_port_33 : decode cX5_port 33 = .ok (.goto 11, 3) := by decide +kernel
theorem dX5_port_36 : decode cX5_port 36 = .ok (.aload_n 0, 1) := by decide +kernel
theorem dX5_port_37 : decode cX5_port 37 = .ok (.getfield 19, 3) := by decide +kernel
theorem dX5_port_40 : decode cX5_port 40 = .ok (.iload_n 1, 1) := by decide +kernel
theorem dX5_port_41 : decode cX5_port 41 = .ok (.invokevirtual 136, 3) := by decide +kernel
theorem dX5_port_44 : decode cX5_port 44 = .ok (.ireturn, 1) := by decide +kernel
set_option maxRecDepth 20000 in
theorem ggX5_share_X5_hasPorts : GoodIn wsX5_share wsX5_hasPorts := goodIn_r _ [7, 2, 8, 9, 10, 11, 12, 13, 14, 15, 16, 17, 18, 117, 118, 119, 120, 121, 122, 130, 131, 132] (by decide +kernel) (by decide +kernel)
set_option maxRecDepth 20000 in
theorem gX5_share_X5_hasPorts : GoodIn wsX5_share (wsV RX5 139 RX5 yX5_hasPorts wsX5_hasPorts) := goodIn_app (goodIn_of _ (by decide +kernel)) ggX5_share_X5_hasPorts
set_option maxRecDepth 20000 in
theorem ggX5_share_X5_isPart : GoodIn wsX5_share wsX5_isPart := goodIn_r _ [21] (by decide +kernel) (by decide +kernel)
set_option maxRecDepth 20000 in
theorem gX5_share_X5_isPart : GoodIn wsX5_share (va_wsS RX5 91 yX5_isPart wsX5_isPart) := goodIn_app (goodIn_of _ (by decide +kernel)) ggX5_share_X5_isPart
set_option maxRecDepth 20000 in
theorem ggX5_share_X0_shine : GoodIn wsX5_share wsX0_shine := goodIn_r _ [26, 27, 28, 29, 11, 30, 17, 18, 31, 32, 33, 34, 35, 36, 37, 25, 38, 39, 40, 41, 42, 43, 44, 45, 46, 47, 48, 6, 49, 50, 51, 52, 53, 54, 55, 56, 57, 58, 59, 60, 61, 62, 63, 64, 65, 66, 67, 68, 69, 70, 71, 72, 73, 74, 75, 76, 77, 78, 79, 80, 81, 82, 83, 84, 85, 86, 87, 88, 89, 90, 91, 92, 93, 94, 95, 96, 97, 98, 99, 100, 101, 102, 103, 104, 105, 106, 130, 131, 132, 123, 124, 125, 126, 127, 128, 129] (by decide +kernel) (by decide +kernel)
set_option maxRecDepth 20000 in
theorem gX5_share_X0_shine : GoodIn wsX5_share (wsV RX5 142 RX0 yX0_shine wsX0_shine) := goodIn_app (goodIn_of _ (by decide +kernel)) ggX5_share_X0_shine
set_option maxRecDepth 20000 in
theorem ggX5_share_X0_outAt : GoodIn wsX5_share wsX0_outAt := goodIn_r _ [110, 102, 123, 124, 125, 126, 127, 128, 129] (by decide +kernel) (by decide +kernel)
set_option maxRecDepth 20000 in
theorem gX5_share_X0_outAt : GoodIn wsX5_share (wsV RX5 146 RX0 yX0_outAt wsX0_outAt) := goodIn_app (goodIn_of _ (by decide +kernel)) ggX5_share_X0_outAt
set_option maxRecDepth 20000 in
theorem ggX5_share_X5_lowest : GoodIn wsX5_share wsX5_lowest := goodIn_r _ [113, 114, 115, 6, 116] (by decide +kernel) (by decide +kernel)
set_option maxRecDepth 20000 in
theorem gX5_share_X5_lowest : GoodIn wsX5_share (va_wsS RX5 154 yX5_lowest wsX5_lowest) := goodIn_app (goodIn_of _ (by decide +kernel)) ggX5_share_X5_lowest
theorem dX5_share_0 : decode cX5_share 0 = .ok (.aload_n 0, 1) := by decide +kernel
theorem dX5_share_1 : decode cX5_share 1 = .ok (.iload_n 1, 1) := by decide +kernel
theorem dX5_share_2 : decode cX5_share 2 = .ok (.iload_n 2, 1) := by decide +kernel
theorem dX5_share_3 : decode cX5_share 3 = .ok (.invokevirtual 139, 3) := by decide +kernel
theorem dX5_share_6 : decode cX5_share 6 = .ok (.ifCond .eq 11, 3) := by decide +kernel
theorem dX5_share_9 : decode cX5_share 9 = .ok (.iload_n 3, 1) := by decide +kernel
theorem dX5_share_10 : decode cX5_share 10 = .ok (.iconst 2, 1) := by decide +kernel
theorem dX5_share_11 : decode cX5_share 11 = .ok (.invokestatic 91, 3) := by decide +kernel
theorem dX5_share_14 : decode cX5_share 14 = .ok (.ifCond .ne 5, 3) := by decide +kernel
theorem dX5_share_17 : decode cX5_share 17 = .ok (.iconst (-1), 1) := by decide +kernel
theorem dX5_share_18 : decode cX5_share 18 = .ok (.ireturn, 1) := by decide +kernel
theorem dX5_share_19 : decode cX5_share 19 = .ok (.aload_n 0, 1) := by decide +kernel
theorem dX5_share_20 : decode cX5_share 20 = .ok (.getfield 43, 3) := by decide +kernel
theorem dX5_share_23 : decode cX5_share 23 = .ok (.aload_n 0, 1) := by decide +kernel
theorem dX5_share_24 : decode cX5_share 24 = .ok (.getfield 19, 3) := by decide +kernel
theorem dX5_share_27 : decode cX5_share 27 = .ok (.iload_n 1, 1) := by decide +kernel
theorem dX5_share_28 : decode cX5_share 28 = .ok (.invokevirtual 142, 3) := by decide +kernel
theorem dX5_share_31 : decode cX5_share 31 = .ok (.aload_n 0, 1) := by decide +kernel
theorem dX5_share_32 : decode cX5_share 32 = .ok (.getfield 43, 3) := by decide +kernel
theorem dX5_share_35 : decode cX5_share 35 = .ok (.iload_n 2, 1) := by decide +kernel
theorem dX5_share_36 : decode cX5_share 36 = .ok (.invokevirtual 146, 3) := by decide +kernel
theorem dX5_share_39 : decode cX5_share 39 = .ok (.aload_n 0, 1) := by decide +kernel
theorem dX5_share_40 : decode cX5_share 40 = .ok (.getfield 43, 3) := by decide +kernel
theorem dX5_share_43 : decode cX5_share 43 = .ok (.getfield 150, 3) := by decide +kernel
theorem dX5_share_46 : decode cX5_share 46 = .ok (.iload_n 3, 1) := by decide +kernel
theorem dX5_share_47 : decode cX5_share 47 = .ok (.invokestatic 154, 3) := by decide +kernel
theorem dX5_share_50 : decode cX5_share 50 = .ok (.ireturn, 1) := by decide +kernel
set_option maxRecDepth 20000 in
theorem ggX5_lost_X2_hasPort : GoodIn wsX5_lost wsX2_hasPort := goodIn_r _ [7, 8, 9, 10, 6, 11, 12, 13, 135, 136, 137] (by decide +kernel) (by decide +kernel)
set_option maxRecDepth 20000 in
theorem gX5_lost_X2_hasPort : GoodIn wsX5_lost (wsV RX5 129 RX2 yX2_hasPort wsX2_hasPort) := goodIn_app (goodIn_of _ (by decide +kernel)) ggX5_lost_X2_hasPort
set_option maxRecDepth 20000 in
theorem ggX5_lost_X5_isPart : GoodIn wsX5_lost wsX5_isPart := goodIn_r _ [17] (by decide +kernel) (by decide +kernel)
set_option maxRecDepth 20000 in
theorem gX5_lost_X5_isPart : GoodIn wsX5_lost (va_wsS RX5 91 yX5_isPart wsX5_isPart) := goodIn_app (goodIn_of _ (by decide +kernel)) ggX5_lost_X5_isPart
set_option maxRecDepth 20000 in
theorem ggX5_lost_X0_shine : GoodIn wsX5_lost wsX0_shine := goodIn_r _ [22, 23, 24, 25, 6, 26, 12, 13, 27, 28, 29, 30, 31, 32, 33, 21, 34, 35, 36, 37, 38, 39, 40, 41, 42, 43, 44, 16, 45, 46, 47, 48, 49, 50, 51, 52, 53, 54, 55, 56, 57, 58, 59, 60, 61, 62, 63, 64, 65, 66, 67, 68, 69, 70, 71, 72, 73, 74, 75, 76, 77, 78, 79, 80, 81, 82, 83, 84, 85, 86, 87, 88, 89, 90, 91, 92, 93, 94, 95, 96, 97, 98, 99, 100, 101, 102, 135, 136, 137, 128, 129, 130, 131, 132, 133, 134] (by decide +kernel) (by decide +kernel)
set_option maxRecDepth 20000 in
theorem gX5_lost_X0_shine : GoodIn wsX5_lost (wsV RX5 142 RX0 yX0_shine wsX0_shine) := goodIn_app (goodIn_of _ (by decide +kernel)) ggX5_lost_X0_shine
set_option maxRecDepth 20000 in
theorem ggX5_lost_X0_swallowed : GoodIn wsX5_lost wsX0_swallowed := goodIn_r _ [106, 98, 128, 129, 130, 131, 132, 133, 134] (by decide +kernel) (by decide +kernel)
set_option maxRecDepth 20000 in
theorem gX5_lost_X0_swallowed : GoodIn wsX5_lost (wsV RX5 158 RX0 yX0_swallowed wsX0_swallowed) := goodIn_app (goodIn_of _ (by decide +kernel)) ggX5_lost_X0_swallowed
set_option maxRecDepth 20000 in
theorem ggX5_lost_X0_caught : GoodIn wsX5_lost wsX0_caught := goodIn_r _ [110, 89, 111, 104, 105, 21, 106, 98, 112, 113, 114, 115, 128, 129, 130, 131, 132, 133, 134] (by decide +kernel) (by decide +kernel)
set_option maxRecDepth 20000 in
theorem gX5_lost_X0_caught : GoodIn wsX5_lost (wsV RX5 162 RX0 yX0_caught wsX0_caught) := goodIn_app (goodIn_of _ (by decide +kernel)) ggX5_lost_X0_caught
set_option maxRecDepth 20000 in
theorem ggX5_lost_X5_lowest : GoodIn wsX5_lost wsX5_lowest := goodIn_r _ [118, 119, 120, 16, 121] (by decide +kernel) (by decide +kernel)
set_option maxRecDepth 20000 in
theorem gX5_lost_X5_lowest : GoodIn wsX5_lost (va_wsS RX5 154 yX5_lowest wsX5_lowest) := goodIn_app (goodIn_of _ (by decide +kernel)) ggX5_lost_X5_lowest
theorem dX5_lost_0 : decode cX5_lost 0 = .ok (.aload_n 0, 1) := by decide +kernel
theorem dX5_lost_1 : decode cX5_lost 1 = .ok (.getfield 19, 3) := by decide +kernel
theorem dX5_lost_4 : decode cX5_lost 4 = .ok (.iload_n 1, 1) := by decide +kernel
theorem dX5_lost_5 : decode cX5_lost 5 = .ok (.invokevirtual 129, 3) := by decide +kernel
theorem dX5_lost_8 : decode cX5_lost 8 = .ok (.ifCond .eq 11, 3) := by decide +kernel
theorem dX5_lost_11 : decode cX5_lost 11 = .ok (.iload_n 2, 1) := by decide +kernel
theorem dX5_lost_12 : decode cX5_lost 12 = .ok (.iconst 4, 1) := by decide +kernel
theorem dX5_lost_13 : decode cX5_lost 13 = .ok (.invokestatic 91, 3) := by decide +kernel
theorem dX5_lost_16 : decode cX5_lost 16 = .ok (.ifCond .ne 5, 3) := by decide +kernel
theorem dX5_lost_19 : decode cX5_lost 19 = .ok (.iconst (-1), 1) := by decide +kernel
theorem dX5_lost_20 : decode cX5_lost 20 = .ok (.ireturn, 1) := by decide +kernel
theorem dX5_lost_21 : decode cX5_lost 21 = .ok (.aload_n 0, 1) := by decide +kernel
theorem dX5_lost_22 : decode cX5_lost 22 = .ok (.getfield 43, 3) := by decide +kernel
theorem dX5_lost_25 : decode cX5_lost 25 = .ok (.aload_n 0, 1) := by decide +kernel
theorem dX5_lost_26 : decode cX5_lost 26 = .ok (.getfield 19, 3) := by decide +kernel
theorem dX5_lost_29 : decode cX5_lost 29 = .ok (.iload_n 1, 1) := by decide +kernel
theorem dX5_lost_30 : decode cX5_lost 30 = .ok (.invokevirtual 142, 3) := by decide +kernel
theorem dX5_lost_33 : decode cX5_lost 33 = .ok (.iload_n 2, 1) := by decide +kernel
theorem dX5_lost_34 : decode cX5_lost 34 = .ok (.iconst 2, 1) := by decide +kernel
theorem dX5_lost_35 : decode cX5_lost 35 = .ok (.if_icmp .ge 13, 3) := by decide +kernel
theorem dX5_lost_38 : decode cX5_lost 38 = .ok (.aload_n 0, 1) := by decide +kernel
theorem dX5_lost_39 : decode cX5_lost 39 = .ok (.getfield 43, 3) := by decide +kernel
theorem dX5_lost_42 : decode cX5_lost 42 = .ok (.invokevirtual 158, 3) := by decide +kernel
theorem dX5_lost_45 : decode cX5_lost 45 = .ok (.goto 10, 3) := by decide +kernel
theorem dX5_lost_48 : decode cX5_lost 48 = .ok (.aload_n 0, 1) := by decide +kernel
theorem dX5_lost_49 : decode cX5_lost 49 = .ok (.getfield 43, 3) := by decide +kernel
theorem dX5_lost_52 : decode cX5_lost 52 = .ok (.invokevirtual 162, 3) := by decide +kernel
theorem dX5_lost_55 : decode cX5_lost 55 = .ok (.aload_n 0, 1) := by decide +kernel
theorem dX5_lost_56 : decode cX5_lost 56 = .ok (.getfield 43, 3) := by decide +kernel
theorem dX5_lost_59 : decode cX5_lost 59 = .ok (.getfield 150, 3) := by decide +kernel
theorem dX5_lost_62 : decode cX5_lost 62 = .ok (.iload_n 2, 1) := by decide +kernel
theorem dX5_lost_63 : decode cX5_lost 63 = .ok (.iconst 2, 1) := by decide +kernel
theorem dX5_lost_64 : decode cX5_lost 64 = .ok (.irem, 1) := by decide +kernel
theorem dX5_lost_65 : decode cX5_lost 65 = .ok (.invokestatic 154, 3) := by decide +kernel
theorem dX5_lost_68 : decode cX5_lost 68 = .ok (.ireturn, 1) := by decide +kernel
set_option maxRecDepth 20000 in
theorem ggX5_bits_X5_hasPorts : GoodIn wsX5_bits wsX5_hasPorts := goodIn_r _ [7, 2, 8, 9, 10, 11, 12, 13, 14, 15, 16, 17, 18, 118, 119, 120, 121, 122, 123, 131, 132, 133] (by decide +kernel) (by decide +kernel)
set_option maxRecDepth 20000 in
theorem gX5_bits_X5_hasPorts : GoodIn wsX5_bits (wsV RX5 139 RX5 yX5_hasPorts wsX5_hasPorts) := goodIn_app (goodIn_of _ (by decide +kernel)) ggX5_bits_X5_hasPorts
set_option maxRecDepth 20000 in
theorem ggX5_bits_X0_shine : GoodIn wsX5_bits wsX0_shine := goodIn_r _ [23, 24, 25, 26, 11, 27, 17, 18, 28, 29, 30, 31, 32, 33, 34, 22, 35, 36, 37, 38, 39, 40, 41, 42, 43, 44, 45, 6, 46, 47, 48, 49, 50, 51, 52, 53, 54, 55, 56, 57, 58, 59, 60, 61, 62, 63, 64, 65, 66, 67, 68, 69, 70, 71, 72, 73, 74, 75, 76, 77, 78, 79, 80, 81, 82, 83, 84, 85, 86, 87, 88, 89, 90, 91, 92, 93, 94, 95, 96, 97, 98, 99, 100, 101, 102, 103, 131, 132, 133, 124, 125, 126, 127, 128, 129, 130] (by decide +kernel) (by decide +kernel)
set_option maxRecDepth 20000 in
theorem gX5_bits_X0_shine : GoodIn wsX5_bits (wsV RX5 142 RX0 yX0_shine wsX0_shine) := goodIn_app (goodIn_of _ (by decide +kernel)) ggX5_bits_X0_shine
set_option maxRecDepth 20000 in
theorem ggX5_bits_X0_outAt : GoodIn wsX5_bits wsX0_outAt := goodIn_r _ [107, 99, 124, 125, 126, 127, 128, 129, 130] (by decide +kernel) (by decide +kernel)
set_option maxRecDepth 20000 in
theorem gX5_bits_X0_outAt : GoodIn wsX5_bits (wsV RX5 146 RX0 yX0_outAt wsX0_outAt) := goodIn_app (goodIn_of _ (by decide +kernel)) ggX5_bits_X0_outAt
set_option maxRecDepth 20000 in
theorem ggX5_bits_X5_lowest : GoodIn wsX5_bits wsX5_lowest := goodIn_r _ [110, 111, 112, 6, 113] (by decide +kernel) (by decide +kernel)
set_option maxRecDepth 20000 in
theorem gX5_bits_X5_lowest : GoodIn wsX5_bits (va_wsS RX5 154 yX5_lowest wsX5_lowest) := goodIn_app (goodIn_of _ (by decide +kernel)) ggX5_bits_X5_lowest
set_option maxRecDepth 20000 in
theorem ggX5_bits_X5_floatBits : GoodIn wsX5_bits wsX5_floatBits := goodIn_r _ [116, 117] (by decide +kernel) (by decide +kernel)
set_option maxRecDepth 20000 in
theorem gX5_bits_X5_floatBits : GoodIn wsX5_bits (va_wsS RX5 165 yX5_floatBits wsX5_floatBits) := goodIn_app (goodIn_of _ (by decide +kernel)) ggX5_bits_X5_floatBits
theorem dX5_bits_0 : decode cX5_bits 0 = .ok (.aload_n 0, 1) := by decide +kernel
theorem dX5_bits_1 : decode cX5_bits 1 = .ok (.iload_n 1, 1) := by decide +kernel
theorem dX5_bits_2 : decode cX5_bits 2 = .ok (.iload_n 2, 1) := by decide +kernel
theorem dX5_bits_3 : decode cX5_bits 3 = .ok (.invokevirtual 139, 3) := by decide +kernel
theorem dX5_bits_6 : decode cX5_bits 6 = .ok (.ifCond .ne 5, 3) := by decide +kernel
theorem dX5_bits_9 : decode cX5_bits 9 = .ok (.iconst (-1), 1) := by decide +kernel
theorem dX5_bits_10 : decode cX5_bits 10 = .ok (.ireturn, 1) := by decide +kernel
theorem dX5_bits_11 : decode cX5_bits 11 = .ok (.aload_n 0, 1) := by decide +kernel
theorem dX5_bits_12 : decode cX5_bits 12 = .ok (.getfield 43, 3) := by decide +kernel
theorem dX5_bits_15 : decode cX5_bits 15 = .ok (.aload_n 0, 1) := by decide +kernel
theorem dX5_bits_16 : decode cX5_bits 16 = .ok (.getfield 19, 3) := by decide +kernel
theorem dX5_bits_19 : decode cX5_bits 19 = .ok (.iload_n 1, 1) := by decide +kernel
theorem dX5_bits_20 : decode cX5_bits 20 = .ok (.invokevirtual 142, 3) := by decide +kernel
theorem dX5_bits_23 : decode cX5_bits 23 = .ok (.aload_n 0, 1) := by decide +kernel
theorem dX5_bits_24 : decode cX5_bits 24 = .ok (.getfield 43, 3) := by decide +kernel
theorem dX5_bits_27 : decode cX5_bits 27 = .ok (.iload_n 2, 1) := by decide +kernel
theorem dX5_bits_28 : decode cX5_bits 28 = .ok (.invokevirtual 146, 3) := by decide +kernel
theorem dX5_bits_31 : decode cX5_bits 31 = .ok (.aload_n 0, 1) := by decide +kernel
theorem dX5_bits_32 : decode cX5_bits 32 = .ok (.getfield 43, 3) := by decide +kernel
theorem dX5_bits_35 : decode cX5_bits 35 = .ok (.getfield 150, 3) := by decide +kernel
theorem dX5_bits_38 : decode cX5_bits 38 = .ok (.iconst 0, 1) := by decide +kernel
theorem dX5_bits_39 : decode cX5_bits 39 = .ok (.invokestatic 154, 3) := by decide +kernel
theorem dX5_bits_42 : decode cX5_bits 42 = .ok (.istore_n 3, 1) := by decide +kernel
theorem dX5_bits_43 : decode cX5_bits 43 = .ok (.aload_n 0, 1) := by decide +kernel
theorem dX5_bits_44 : decode cX5_bits 44 = .ok (.getfield 43, 3) := by decide +kernel
theorem dX5_bits_47 : decode cX5_bits 47 = .ok (.iload_n 2, 1) := by decide +kernel
theorem dX5_bits_48 : decode cX5_bits 48 = .ok (.invokevirtual 146, 3) := by decide +kernel
theorem dX5_bits_51 : decode cX5_bits 51 = .ok (.aload_n 0, 1) := by decide +kernel
theorem dX5_bits_52 : decode cX5_bits 52 = .ok (.getfield 43, 3) := by decide +kernel
theorem dX5_bits_55 : decode cX5_bits 55 = .ok (.getfield 150, 3) := by decide +kernel
theorem dX5_bits_58 : decode cX5_bits 58 = .ok (.iconst 1, 1) := by decide +kernel
theorem dX5_bits_59 : decode cX5_bits 59 = .ok (.invokestatic 154, 3) := by decide +kernel
theorem dX5_bits_62 : decode cX5_bits 62 = .ok (.istore 4, 2) := by decide +kernel
theorem dX5_bits_64 : decode cX5_bits 64 = .ok (.iload_n 3, 1) := by decide +kernel
theorem dX5_bits_65 : decode cX5_bits 65 = .ok (.iload 4, 2) := by decide +kernel
theorem dX5_bits_67 : decode cX5_bits 67 = .ok (.invokestatic 165, 3) := by decide +kernel
theorem dX5_bits_70 : decode cX5_bits 70 = .ok (.ireturn, 1) := by decide +kernel
set_option maxRecDepth 20000 in
theorem ggX5_lit_X2_hasPort : GoodIn wsX5_lit wsX2_hasPort := goodIn_r _ [7, 8, 9, 10, 6, 11, 12, 13, 87, 88, 89] (by decide +kernel) (by decide +kernel)
set_option maxRecDepth 20000 in
theorem gX5_lit_X2_hasPort : GoodIn wsX5_lit (wsV RX5 129 RX2 yX2_hasPort wsX2_hasPort) := goodIn_app (goodIn_of _ (by decide +kernel)) ggX5_lit_X2_hasPort
set_option maxRecDepth 20000 in
theorem ggX5_lit_X4_goFrom : GoodIn wsX5_lit wsX4_goFrom := goodIn_r _ [18, 19, 20, 21, 22, 23, 24, 25, 26, 27, 28, 29, 30, 6, 31, 12, 13, 32, 33, 34, 35, 36, 37, 38, 39, 17, 40, 41, 42, 43, 44, 45, 46, 47, 48, 49, 50, 51, 52, 53, 54, 55, 56, 57, 58, 59, 60, 61, 62, 63, 64, 65, 66, 67, 68, 69, 70, 71, 72, 73, 74, 75, 82, 83, 84, 85, 86, 87, 88, 89] (by decide +kernel) (by decide +kernel)
set_option maxRecDepth 20000 in
theorem gX5_lit_X4_goFrom : GoodIn wsX5_lit (wsV RX5 168 RX4 yX4_goFrom wsX4_goFrom) := goodIn_app (goodIn_of _ (by decide +kernel)) ggX5_lit_X4_goFrom
theorem dX5_lit_0 : decode cX5_lit 0 = .ok (.aload_n 0, 1) := by decide +kernel
theorem dX5_lit_1 : decode cX5_lit 1 = .ok (.getfield 19, 3) := by decide +kernel
theorem dX5_lit_4 : decode cX5_lit 4 = .ok (.iload_n 1, 1) := by decide +kernel
theorem dX5_lit_5 : decode cX5_lit 5 = .ok (.invokevirtual 129, 3) := by decide +kernel
theorem dX5_lit_8 : decode cX5_lit 8 = .ok (.ifCond .ne 5, 3) := by decide +kernel
theorem dX5_lit_11 : decode cX5_lit 11 = .ok (.iconst (-1), 1) := by decide +kernel
theorem dX5_lit_12 : decode cX5_lit 12 = .ok (.ireturn, 1) := by decide +kernel
theorem dX5_lit_13 : decode cX5_lit 13 = .ok (.aload_n 0, 1) := by decide +kernel
theorem dX5_lit_14 : decode cX5_lit 14 = .ok (.getfield 36, 3) := by decide +kernel
theorem dX5_lit_17 : decode cX5_lit 17 = .ok (.aload_n 0, 1) := by decide +kernel
theorem dX5_lit_18 : decode cX5_lit 18 = .ok (.getfield 19, 3) := by decide +kernel
theorem dX5_lit_21 : decode cX5_lit 21 = .ok (.iload_n 1, 1) := by decide +kernel
theorem dX5_lit_22 : decode cX5_lit 22 = .ok (.invokevirtual 168, 3) := by decide +kernel
theorem dX5_lit_25 : decode cX5_lit 25 = .ok (.aload_n 0, 1) := by decide +kernel
theorem dX5_lit_26 : decode cX5_lit 26 = .ok (.getfield 36, 3) := by decide +kernel
theorem dX5_lit_29 : decode cX5_lit 29 = .ok (.getfield 171, 3) := by decide +kernel
theorem dX5_lit_32 : decode cX5_lit 32 = .ok (.ireturn, 1) := by decide +kernel
set_option maxRecDepth 20000 in
theorem ggX5_far_X5_hasPorts : GoodIn wsX5_far wsX5_hasPorts := goodIn_r _ [7, 2, 8, 9, 10, 11, 12, 13, 14, 15, 16, 17, 18, 84, 85, 86, 87, 88, 89, 90, 91, 92] (by decide +kernel) (by decide +kernel)
set_option maxRecDepth 20000 in
theorem gX5_far_X5_hasPorts : GoodIn wsX5_far (wsV RX5 139 RX5 yX5_hasPorts wsX5_hasPorts) := goodIn_app (goodIn_of _ (by decide +kernel)) ggX5_far_X5_hasPorts
set_option maxRecDepth 20000 in
theorem ggX5_far_X4_goFrom : GoodIn wsX5_far wsX4_goFrom := goodIn_r _ [23, 24, 25, 26, 27, 28, 29, 30, 31, 32, 33, 34, 35, 11, 36, 17, 18, 37, 38, 39, 40, 41, 42, 43, 44, 22, 45, 46, 47, 48, 49, 50, 51, 52, 53, 54, 55, 56, 57, 58, 59, 6, 60, 61, 62, 63, 64, 65, 66, 67, 68, 69, 70, 71, 72, 73, 74, 75, 76, 77, 78, 79, 93, 94, 95, 96, 97, 90, 91, 92] (by decide +kernel) (by decide +kernel)
set_option maxRecDepth 20000 in
theorem gX5_far_X4_goFrom : GoodIn wsX5_far (wsV RX5 168 RX4 yX4_goFrom wsX4_goFrom) := goodIn_app (goodIn_of _ (by decide +kernel)) ggX5_far_X4_goFrom
set_option maxRecDepth 20000 in
theorem ggX5_far_X4_fewestTo : GoodIn wsX5_far wsX4_fewestTo := goodIn_r _ [83, 25, 93, 94, 95, 96, 97] (by decide +kernel) (by decide +kernel)
set_option maxRecDepth 20000 in
theorem gX5_far_X4_fewestTo : GoodIn wsX5_far (wsV RX5 174 RX4 yX4_fewestTo wsX4_fewestTo) := goodIn_app (goodIn_of _ (by decide +kernel)) ggX5_far_X4_fewestTo
theorem dX5_far_0 : decode cX5_far 0 = .ok (.aload_n 0, 1) := by decide +kernel
theorem dX5_far_1 : decode cX5_far 1 = .ok (.iload_n 1, 1) := by decide +kernel
theorem dX5_far_2 : decode cX5_far 2 = .ok (.iload_n 2, 1) := by decide +kernel
theorem dX5_far_3 : decode cX5_far 3 = .ok (.invokevirtual 139, 3) := by decide +kernel
theorem dX5_far_6 : decode cX5_far 6 = .ok (.ifCond .ne 5, 3) := by decide +kernel
theorem dX5_far_9 : decode cX5_far 9 = .ok (.iconst (-1), 1) := by decide +kernel
theorem dX5_far_10 : decode cX5_far 10 = .ok (.ireturn, 1) := by decide +kernel
theorem dX5_far_11 : decode cX5_far 11 = .ok (.aload_n 0, 1) := by decide +kernel
theorem dX5_far_12 : decode cX5_far 12 = .ok (.getfield 36, 3) := by decide +kernel
theorem dX5_far_15 : decode cX5_far 15 = .ok (.aload_n 0, 1) := by decide +kernel
theorem dX5_far_16 : decode cX5_far 16 = .ok (.getfield 19, 3) := by decide +kernel
theorem dX5_far_19 : decode cX5_far 19 = .ok (.iload_n 1, 1) := by decide +kernel
theorem dX5_far_20 : decode cX5_far 20 = .ok (.invokevirtual 168, 3) := by decide +kernel
theorem dX5_far_23 : decode cX5_far 23 = .ok (.aload_n 0, 1) := by decide +kernel
theorem dX5_far_24 : decode cX5_far 24 = .ok (.getfield 36, 3) := by decide +kernel
theorem dX5_far_27 : decode cX5_far 27 = .ok (.iload_n 2, 1) := by decide +kernel
theorem dX5_far_28 : decode cX5_far 28 = .ok (.invokevirtual 174, 3) := by decide +kernel
theorem dX5_far_31 : decode cX5_far 31 = .ok (.ireturn, 1) := by decide +kernel
set_option maxRecDepth 20000 in
theorem ggX5_alike_X5_hasPorts : GoodIn wsX5_alike wsX5_hasPorts := goodIn_r _ [7, 2, 8, 9, 10, 11, 12, 13, 14, 15, 16, 17, 18, 124, 125, 126, 127, 128, 129, 137, 138, 139] (by decide +kernel) (by decide +kernel)
set_option maxRecDepth 20000 in
theorem gX5_alike_X5_hasPorts : GoodIn wsX5_alike (wsV RX5 139 RX5 yX5_hasPorts wsX5_hasPorts) := goodIn_app (goodIn_of _ (by decide +kernel)) ggX5_alike_X5_hasPorts
set_option maxRecDepth 20000 in
theorem ggX5_alike_X0_shine : GoodIn wsX5_alike wsX0_shine := goodIn_r _ [23, 24, 25, 26, 11, 27, 17, 18, 28, 29, 30, 31, 32, 33, 34, 22, 35, 36, 37, 38, 39, 40, 41, 42, 43, 44, 45, 6, 46, 47, 48, 49, 50, 51, 52, 53, 54, 55, 56, 57, 58, 59, 60, 61, 62, 63, 64, 65, 66, 67, 68, 69, 70, 71, 72, 73, 74, 75, 76, 77, 78, 79, 80, 81, 82, 83, 84, 85, 86, 87, 88, 89, 90, 91, 92, 93, 94, 95, 96, 97, 98, 99, 100, 101, 102, 103, 137, 138, 139, 130, 131, 132, 133, 134, 135, 136] (by decide +kernel) (by decide +kernel)
set_option maxRecDepth 20000 in
theorem gX5_alike_X0_shine : GoodIn wsX5_alike (wsV RX5 142 RX0 yX0_shine wsX0_shine) := goodIn_app (goodIn_of _ (by decide +kernel)) ggX5_alike_X0_shine
set_option maxRecDepth 20000 in
theorem ggX5_alike_X0_swallowed : GoodIn wsX5_alike wsX0_swallowed := goodIn_r _ [107, 99, 130, 131, 132, 133, 134, 135, 136] (by decide +kernel) (by decide +kernel)
set_option maxRecDepth 20000 in
theorem gX5_alike_X0_swallowed : GoodIn wsX5_alike (wsV RX5 158 RX0 yX0_swallowed wsX0_swallowed) := goodIn_app (goodIn_of _ (by decide +kernel)) ggX5_alike_X0_swallowed
set_option maxRecDepth 20000 in
theorem ggX5_alike_X0_caught : GoodIn wsX5_alike wsX0_caught := goodIn_r _ [111, 90, 112, 105, 106, 22, 107, 99, 113, 114, 115, 116, 130, 131, 132, 133, 134, 135, 136] (by decide +kernel) (by decide +kernel)
set_option maxRecDepth 20000 in
theorem gX5_alike_X0_caught : GoodIn wsX5_alike (wsV RX5 162 RX0 yX0_caught wsX0_caught) := goodIn_app (goodIn_of _ (by decide +kernel)) ggX5_alike_X0_caught
set_option maxRecDepth 20000 in
theorem ggX5_alike_X5_compareFractions : GoodIn wsX5_alike wsX5_compareFractions := goodIn_r _ [119, 120, 121, 122, 123] (by decide +kernel) (by decide +kernel)
set_option maxRecDepth 20000 in
theorem gX5_alike_X5_compareFractions : GoodIn wsX5_alike (va_wsS RX5 177 yX5_compareFractions wsX5_compareFractions) := goodIn_app (goodIn_of _ (by decide +kernel)) ggX5_alike_X5_compareFractions
theorem dX5_alike_0 : decode cX5_alike 0 = .ok (.aload_n 0, 1) := by decide +kernel
theorem dX5_alike_1 : decode cX5_alike 1 = .ok (.iload_n 1, 1) := by decide +kernel
theorem dX5_alike_2 : decode cX5_alike 2 = .ok (.iload_n 2, 1) := by decide +kernel
theorem dX5_alike_3 : decode cX5_alike 3 = .ok (.invokevirtual 139, 3) := by decide +kernel
theorem dX5_alike_6 : decode cX5_alike 6 = .ok (.ifCond .ne 5, 3) := by decide +kernel
theorem dX5_alike_9 : decode cX5_alike 9 = .ok (.iconst (-1), 1) := by decide +kernel
theorem dX5_alike_10 : decode cX5_alike 10 = .ok (.ireturn, 1) := by decide +kernel
theorem dX5_alike_11 : decode cX5_alike 11 = .ok (.aload_n 0, 1) := by decide +kernel
theorem dX5_alike_12 : decode cX5_alike 12 = .ok (.getfield 43, 3) := by decide +kernel
theorem dX5_alike_15 : decode cX5_alike 15 = .ok (.aload_n 0, 1) := by decide +kernel
theorem dX5_alike_16 : decode cX5_alike 16 = .ok (.getfield 19, 3) := by decide +kernel
theorem dX5_alike_19 : decode cX5_alike 19 = .ok (.iload_n 1, 1) := by decide +kernel
theorem dX5_alike_20 : decode cX5_alike 20 = .ok (.invokevirtual 142, 3) := by decide +kernel
theorem dX5_alike_23 : decode cX5_alike 23 = .ok (.aload_n 0, 1) := by decide +kernel
theorem dX5_alike_24 : decode cX5_alike 24 = .ok (.getfield 43, 3) := by decide +kernel
theorem dX5_alike_27 : decode cX5_alike 27 = .ok (.invokevirtual 158, 3) := by decide +kernel
theorem dX5_alike_30 : decode cX5_alike 30 = .ok (.lstore_n 3, 1) := by decide +kernel
theorem dX5_alike_31 : decode cX5_alike 31 = .ok (.aload_n 0, 1) := by decide +kernel
theorem dX5_alike_32 : decode cX5_alike 32 = .ok (.getfield 43, 3) := by decide +kernel
theorem dX5_alike_35 : decode cX5_alike 35 = .ok (.invokevirtual 162, 3) := by decide +kernel
theorem dX5_alike_38 : decode cX5_alike 38 = .ok (.lstore 5, 2) := by decide +kernel
theorem dX5_alike_40 : decode cX5_alike 40 = .ok (.aload_n 0, 1) := by decide +kernel
theorem dX5_alike_41 : decode cX5_alike 41 = .ok (.getfield 43, 3) := by decide +kernel
theorem dX5_alike_44 : decode cX5_alike 44 = .ok (.getfield 150, 3) := by decide +kernel
theorem dX5_alike_47 : decode cX5_alike 47 = .ok (.lstore 7, 2) := by decide +kernel
theorem dX5_alike_49 : decode cX5_alike 49 = .ok (.aload_n 0, 1) := by decide +kernel
theorem dX5_alike_50 : decode cX5_alike 50 = .ok (.getfield 43, 3) := by decide +kernel
theorem dX5_alike_53 : decode cX5_alike 53 = .ok (.aload_n 0, 1) := by decide +kernel
theorem dX5_alike_54 : decode cX5_alike 54 = .ok (.getfield 19, 3) := by decide +kernel
theorem dX5_alike_57 : decode cX5_alike 57 = .ok (.iload_n 2, 1) := by decide +kernel
theorem dX5_alike_58 : decode cX5_alike 58 = .ok (.invokevirtual 142, 3) := by decide +kernel
theorem dX5_alike_61 : decode cX5_alike 61 = .ok (.lload_n 3, 1) := by decide +kernel
theorem dX5_alike_62 : decode cX5_alike 62 = .ok (.lload 7, 2) := by decide +kernel
theorem dX5_alike_64 : decode cX5_alike 64 = .ok (.aload_n 0, 1) := by decide +kernel
theorem dX5_alike_65 : decode cX5_alike 65 = .ok (.getfield 43, 3) := by decide +kernel
theorem dX5_alike_68 : decode cX5_alike 68 = .ok (.invokevirtual 158, 3) := by decide +kernel
theorem dX5_alike_71 : decode cX5_alike 71 = .ok (.aload_n 0, 1) := by decide +kernel
theorem dX5_alike_72 : decode cX5_alike 72 = .ok (.getfield 43, 3) := by decide +kernel
theorem dX5_alike_75 : decode cX5_alike 75 = .ok (.getfield 150, 3) := by decide +kernel
theorem dX5_alike_78 : decode cX5_alike 78 = .ok (.invokestatic 177, 3) := by decide +kernel
theorem dX5_alike_81 : decode cX5_alike 81 = .ok (.ifCond .ne 31, 3) := by decide +kernel
theorem dX5_alike_84 : decode cX5_alike 84 = .ok (.lload 5, 2) := by decide +kernel
theorem dX5_alike_86 : decode cX5_alike 86 = .ok (.lload 7, 2) := by decide +kernel
theorem dX5_alike_88 : decode cX5_alike 88 = .ok (.aload_n 0, 1) := by decide +kernel
theorem dX5_alike_89 : decode cX5_alike 89 = .ok (.getfield 43, 3) := by decide +kernel
theorem dX5_alike_92 : decode cX5_alike 92 = .ok (.invokevirtual 162, 3) := by decide +kernel
theorem dX5_alike_95 : decode cX5_alike 95 = .ok (.aload_n 0, 1) := by decide +kernel
theorem dX5_alike_96 : decode cX5_alike 96 = .ok (.getfield 43, 3) := by decide +kernel
theorem dX5_alike_99 : decode cX5_alike 99 = .ok (.getfield 150, 3) := by decide +kernel
theorem dX5_alike_102 : decode cX5_alike 102 = .ok (.invokestatic 177, 3) := by decide +kernel
theorem dX5_alike_105 : decode cX5_alike 105 = .ok (.ifCond .ne 7, 3) := by decide +kernel
theorem dX5_alike_108 : decode cX5_alike 108 = .ok (.iconst 1, 1) := by decide +kernel
theorem dX5_alike_109 : decode cX5_alike 109 = .ok (.goto 4, 3) := by decide +kernel
theorem dX5_alike_112 : decode cX5_alike 112 = .ok (.iconst 0, 1) := by decide +kernel
theorem dX5_alike_113 : decode cX5_alike 113 = .ok (.istore 9, 2) := by decide +kernel
theorem dX5_alike_115 : decode cX5_alike 115 = .ok (.iload 9, 2) := by decide +kernel
theorem dX5_alike_117 : decode cX5_alike 117 = .ok (.ifCond .eq 7, 3) := by decide +kernel
theorem dX5_alike_120 : decode cX5_alike 120 = .ok (.iconst 1, 1) := by decide +kernel
theorem dX5_alike_121 : decode cX5_alike 121 = .ok (.goto 4, 3) := by decide +kernel
theorem dX5_alike_124 : decode cX5_alike 124 = .ok (.iconst 0, 1) := by decide +kernel
theorem dX5_alike_125 : decode cX5_alike 125 = .ok (.ireturn, 1) := by decide +kernel
set_option maxRecDepth 20000 in
theorem ggX5_best_X5_hasPorts : GoodIn wsX5_best wsX5_hasPorts := goodIn_r _ [9, 1, 10, 11, 12, 13, 14, 15, 16, 17, 18, 19, 20, 158, 159, 160, 161, 162, 163, 171, 172, 173] (by decide +kernel) (by decide +kernel)
set_option maxRecDepth 20000 in
theorem gX5_best_X5_hasPorts : GoodIn wsX5_best (wsV RX5 139 RX5 yX5_hasPorts wsX5_hasPorts) := goodIn_app (goodIn_of _ (by decide +kernel)) ggX5_best_X5_hasPorts
set_option maxRecDepth 20000 in
theorem ggX5_best_X5_isPart : GoodIn wsX5_best wsX5_isPart := goodIn_r _ [23] (by decide +kernel) (by decide +kernel)
set_option maxRecDepth 20000 in
theorem gX5_best_X5_isPart : GoodIn wsX5_best (va_wsS RX5 91 yX5_isPart wsX5_isPart) := goodIn_app (goodIn_of _ (by decide +kernel)) ggX5_best_X5_isPart
set_option maxRecDepth 20000 in
theorem ggX5_best_X2_countKinds : GoodIn wsX5_best wsX2_countKinds := goodIn_r _ [27, 28, 29, 30, 13, 31, 19, 20, 32, 33, 34, 35, 36, 171, 172, 173] (by decide +kernel) (by decide +kernel)
set_option maxRecDepth 20000 in
theorem gX5_best_X2_countKinds : GoodIn wsX5_best (wsV RX5 95 RX2 yX2_countKinds wsX2_countKinds) := goodIn_app (goodIn_of _ (by decide +kernel)) ggX5_best_X2_countKinds
set_option maxRecDepth 20000 in
theorem ggX5_best_X5_openOnly : GoodIn wsX5_best wsX5_openOnly := goodIn_r _ [40, 4, 1, 41, 42, 43, 13, 44, 19, 20, 36, 45, 46, 47, 48, 49, 50, 51, 52, 28, 29, 30, 31, 32, 33, 34, 35, 53, 54, 55, 56, 158, 159, 160, 161, 162, 163, 171, 172, 173] (by decide +kernel) (by decide +kernel)
set_option maxRecDepth 20000 in
theorem gX5_best_X5_openOnly : GoodIn wsX5_best (wsV RX5 183 RX5 yX5_openOnly wsX5_openOnly) := goodIn_app (goodIn_of _ (by decide +kernel)) ggX5_best_X5_openOnly
set_option maxRecDepth 20000 in
theorem ggX5_best_X0_shine : GoodIn wsX5_best wsX0_shine := goodIn_r _ [61, 62, 63, 64, 13, 65, 19, 20, 66, 67, 68, 69, 70, 71, 72, 60, 73, 74, 33, 34, 35, 36, 28, 29, 30, 31, 75, 8, 76, 77, 78, 79, 80, 81, 82, 83, 84, 85, 86, 87, 88, 89, 90, 91, 92, 93, 94, 95, 96, 97, 98, 99, 100, 101, 102, 103, 104, 105, 106, 107, 108, 109, 110, 111, 112, 113, 114, 115, 116, 117, 118, 119, 120, 121, 122, 123, 124, 125, 126, 127, 128, 129, 130, 131, 132, 133, 171, 172, 173, 164, 165, 166, 167, 168, 169, 170] (by decide +kernel) (by decide +kernel)
set_option maxRecDepth 20000 in
theorem gX5_best_X0_shine : GoodIn wsX5_best (wsV RX5 142 RX0 yX0_shine wsX0_shine) := goodIn_app (goodIn_of _ (by decide +kernel)) ggX5_best_X0_shine
set_option maxRecDepth 20000 in
theorem ggX5_best_X0_outAt : GoodIn wsX5_best wsX0_outAt := goodIn_r _ [137, 129, 164, 165, 166, 167, 168, 169, 170] (by decide +kernel) (by decide +kernel)
set_option maxRecDepth 20000 in
theorem gX5_best_X0_outAt : GoodIn wsX5_best (wsV RX5 146 RX0 yX0_outAt wsX0_outAt) := goodIn_app (goodIn_of _ (by decide +kernel)) ggX5_best_X0_outAt
set_option maxRecDepth 20000 in
theorem ggX5_best_X5_compareFractions : GoodIn wsX5_best wsX5_compareFractions := goodIn_r _ [140, 141, 142, 143, 144] (by decide +kernel) (by decide +kernel)
set_option maxRecDepth 20000 in
theorem gX5_best_X5_compareFractions : GoodIn wsX5_best (va_wsS RX5 177 yX5_compareFractions wsX5_compareFractions) := goodIn_app (goodIn_of _ (by decide +kernel)) ggX5_best_X5_compareFractions
set_option maxRecDepth 20000 in
theorem ggX5_best_J6_bitCount_0f7a4 : GoodIn wsX5_best wsJ6_bitCount_0f7a4 := goodIn_r _ [148, 149, 150, 151] (by decide +kernel) (by decide +kernel)
set_option maxRecDepth 20000 in
theorem gX5_best_J6_bitCount_0f7a4 : GoodIn wsX5_best (va_wsS RX5 187 yJ6_bitCount_0f7a4 wsJ6_bitCount_0f7a4) := goodIn_app (goodIn_of _ (by decide +kernel)) ggX5_best_J6_bitCount_0f7a4
set_option maxRecDepth 20000 in
theorem ggX5_best_X5_lowest : GoodIn wsX5_best wsX5_lowest := goodIn_r _ [154, 155, 156, 8, 157] (by decide +kernel) (by decide +kernel)
set_option maxRecDepth 20000 in
theorem gX5_best_X5_lowest : GoodIn wsX5_best (va_wsS RX5 154 yX5_lowest wsX5_lowest) := goodIn_app (goodIn_of _ (by decide +kernel)) ggX5_best_X5_lowest
theorem dX5_best_0 : decode cX5_best 0 = .ok (.aload_n 0, 1) := by decide +kernel
theorem dX5_best_1 : decode cX5_best 1 = .ok (.iload_n 1, 1) := by decide +kernel
theorem dX5_best_2 : decode cX5_best 2 = .ok (.iload_n 2, 1) := by decide +kernel
theorem dX5_best_3 : decode cX5_best 3 = .ok (.invokevirtual 139, 3) := by decide +kernel
theorem dX5_best_6 : decode cX5_best 6 = .ok (.ifCond .eq 11, 3) := by decide +kernel
theorem dX5_best_9 : decode cX5_best 9 = .ok (.iload_n 3, 1) := by decide +kernel
theorem dX5_best_10 : decode cX5_best 10 = .ok (.iconst 3, 1) := by decide +kernel
theorem dX5_best_11 : decode cX5_best 11 = .ok (.invokestatic 91, 3) := by decide +kernel
theorem dX5_best_14 : decode cX5_best 14 = .ok (.ifCond .ne 5, 3) := by decide +kernel
theorem dX5_best_17 : decode cX5_best 17 = .ok (.iconst (-1), 1) := by decide +kernel
theorem dX5_best_18 : decode cX5_best 18 = .ok (.ireturn, 1) := by decide +kernel
theorem dX5_best_19 : decode cX5_best 19 = .ok (.iconst 1, 1) := by decide +kernel
theorem dX5_best_20 : decode cX5_best 20 = .ok (.aload_n 0, 1) := by decide +kernel
theorem dX5_best_21 : decode cX5_best 21 = .ok (.getfield 19, 3) := by decide +kernel
theorem dX5_best_24 : decode cX5_best 24 = .ok (.bipush 6, 2) := by decide +kernel
theorem dX5_best_26 : decode cX5_best 26 = .ok (.bipush 7, 2) := by decide +kernel
theorem dX5_best_28 : decode cX5_best 28 = .ok (.invokevirtual 95, 3) := by decide +kernel
theorem dX5_best_31 : decode cX5_best 31 = .ok (.ishl, 1) := by decide +kernel
theorem dX5_best_32 : decode cX5_best 32 = .ok (.istore 4, 2) := by decide +kernel
theorem dX5_best_34 : decode cX5_best 34 = .ok (.iconst 0, 1) := by decide +kernel
theorem dX5_best_35 : decode cX5_best 35 = .ok (.istore 5, 2) := by decide +kernel
theorem dX5_best_37 : decode cX5_best 37 = .ok (.ldc2_w 181, 3) := by decide +kernel
theorem dX5_best_40 : decode cX5_best 40 = .ok (.lstore 6, 2) := by decide +kernel
theorem dX5_best_42 : decode cX5_best 42 = .ok (.lconst 1, 1) := by decide +kernel
theorem dX5_best_43 : decode cX5_best 43 = .ok (.lstore 8, 2) := by decide +kernel
theorem dX5_best_45 : decode cX5_best 45 = .ok (.iconst 0, 1) := by decide +kernel
theorem dX5_best_46 : decode cX5_best 46 = .ok (.istore 10, 2) := by decide +kernel
theorem dX5_best_48 : decode cX5_best 48 = .ok (.iload 10, 2) := by decide +kernel
theorem dX5_best_50 : decode cX5_best 50 = .ok (.iload 4, 2) := by decide +kernel
theorem dX5_best_52 : decode cX5_best 52 = .ok (.if_icmp .ge 97, 3) := by decide +kernel
theorem dX5_best_55 : decode cX5_best 55 = .ok (.aload_n 0, 1) := by decide +kernel
theorem dX5_best_56 : decode cX5_best 56 = .ok (.iload 10, 2) := by decide +kernel
theorem dX5_best_58 : decode cX5_best 58 = .ok (.invokevirtual 183, 3) := by decide +kernel
theorem dX5_best_61 : decode cX5_best 61 = .ok (.aload_n 0, 1) := by decide +kernel
theorem dX5_best_62 : decode cX5_best 62 = .ok (.getfield 43, 3) := by decide +kernel
theorem dX5_best_65 : decode cX5_best 65 = .ok (.aload_n 0, 1) := by decide +kernel
theorem dX5_best_66 : decode cX5_best 66 = .ok (.getfield 23, 3) := by decide +kernel
theorem dX5_best_69 : decode cX5_best 69 = .ok (.iload_n 1, 1) := by decide +kernel
theorem dX5_best_70 : decode cX5_best 70 = .ok (.invokevirtual 142, 3) := by decide +kernel
theorem dX5_best_73 : decode cX5_best 73 = .ok (.aload_n 0, 1) := by decide +kernel
theorem dX5_best_74 : decode cX5_best 74 = .ok (.getfield 43, 3) := by decide +kernel
theorem dX5_best_77 : decode cX5_best 77 = .ok (.iload_n 2, 1) := by decide +kernel
theorem dX5_best_78 : decode cX5_best 78 = .ok (.invokevirtual 146, 3) := by decide +kernel
theorem dX5_best_81 : decode cX5_best 81 = .ok (.aload_n 0, 1) := by decide +kernel
theorem dX5_best_82 : decode cX5_best 82 = .ok (.getfield 43, 3) := by decide +kernel
theorem dX5_best_85 : decode cX5_best 85 = .ok (.getfield 150, 3) := by decide +kernel
theorem dX5_best_88 : decode cX5_best 88 = .ok (.lload 6, 2) := by decide +kernel
theorem dX5_best_90 : decode cX5_best 90 = .ok (.lload 8, 2) := by decide +kernel
theorem dX5_best_92 : decode cX5_best 92 = .ok (.invokestatic 177, 3) := by decide +kernel
theorem dX5_best_95 : decode cX5_best 95 = .ok (.istore 11, 2) := by decide +kernel
theorem dX5_best_97 : decode cX5_best 97 = .ok (.iload 11, 2) := by decide +kernel
theorem dX5_best_99 : decode cX5_best 99 = .ok (.ifCond .gt 21, 3) := by decide +kernel
theorem dX5_best_102 : decode cX5_best 102 = .ok (.iload 11, 2) := by decide +kernel
theorem dX5_best_104 : decode cX5_best 104 = .ok (.ifCond .ne 39, 3) := by decide +kernel
theorem dX5_best_107 : decode cX5_best 107 = .ok (.iload 10, 2) := by decide +kernel
theorem dX5_best_109 : decode cX5_best 109 = .ok (.invokestatic 187, 3) := by decide +kernel
theorem dX5_best_112 : decode cX5_best 112 = .ok (.iload 5, 2) := by decide +kernel
theorem dX5_best_114 : decode cX5_best 114 = .ok (.invokestatic 187, 3) := by decide +kernel
theorem dX5_best_117 : decode cX5_best 117 = .ok (.if_icmp .ge 26, 3) := by decide +kernel
theorem dX5_best_120 : decode cX5_best 120 = .ok (.iload 10, 2) := by decide +kernel
theorem dX5_best_122 : decode cX5_best 122 = .ok (.istore 5, 2) := by decide +kernel
theorem dX5_best_124 : decode cX5_best 124 = .ok (.aload_n 0, 1) := by decide +kernel
theorem dX5_best_125 : decode cX5_best 125 = .ok (.getfield 43, 3) := by decide +kernel
theorem dX5_best_128 : decode cX5_best 128 = .ok (.iload_n 2, 1) := by decide +kernel
theorem dX5_best_129 : decode cX5_best 129 = .ok (.invokevirtual 146, 3) := by decide +kernel
theorem dX5_best_132 : decode cX5_best 132 = .ok (.lstore 6, 2) := by decide +kernel
theorem dX5_best_134 : decode cX5_best 134 = .ok (.aload_n 0, 1) := by decide +kernel
theorem dX5_best_135 : decode cX5_best 135 = .ok (.getfield 43, 3) := by decide +kernel
theorem dX5_best_138 : decode cX5_best 138 = .ok (.getfield 150, 3) := by decide +kernel
theorem dX5_best_141 : decode cX5_best 141 = .ok (.lstore 8, 2) := by decide +kernel
theorem dX5_best_143 : decode cX5_best 143 = .ok (.iinc 10 1, 3) := by decide +kernel
theorem dX5_best_146 : decode cX5_best 146 = .ok (.goto (-98), 3) := by decide +kernel
theorem dX5_best_149 : decode cX5_best 149 = .ok (.iload_n 3, 1) := by decide +kernel
theorem dX5_best_150 : decode cX5_best 150 = .ok (.ifCond .ne 8, 3) := by decide +kernel
theorem dX5_best_153 : decode cX5_best 153 = .ok (.iload 5, 2) := by decide +kernel
theorem dX5_best_155 : decode cX5_best 155 = .ok (.goto 13, 3) := by decide +kernel
theorem dX5_best_158 : decode cX5_best 158 = .ok (.lload 6, 2) := by decide +kernel
end
section
theorem dX5_best_160 : decode cX5_best 160 = .ok (.lload 8, 2) := by decide +kernel
theorem dX5_best_162 : decode cX5_best 162 = .ok (.iload_n 3, 1) := by decide +kernel
theorem dX5_best_163 : decode cX5_best 163 = .ok (.iconst 1, 1) := by decide +kernel
theorem dX5_best_164 : decode cX5_best 164 = .ok (.isub, 1) := by decide +kernel
theorem dX5_best_165 : decode cX5_best 165 = .ok (.invokestatic 154, 3) := by decide +kernel
theorem dX5_best_168 : decode cX5_best 168 = .ok (.ireturn, 1) := by decide +kernel
set_option maxRecDepth 20000 in
theorem ggX5_found_X5_hasPorts : GoodIn wsX5_found wsX5_hasPorts := goodIn_r _ [8, 1, 9, 10, 11, 12, 13, 14, 15, 16, 17, 18, 19, 137, 138, 139, 140, 141, 142, 150, 151, 152] (by decide +kernel) (by decide +kernel)
set_option maxRecDepth 20000 in
theorem gX5_found_X5_hasPorts : GoodIn wsX5_found (wsV RX5 139 RX5 yX5_hasPorts wsX5_hasPorts) := goodIn_app (goodIn_of _ (by decide +kernel)) ggX5_found_X5_hasPorts
set_option maxRecDepth 20000 in
theorem ggX5_found_X5_isPart : GoodIn wsX5_found wsX5_isPart := goodIn_r _ [22] (by decide +kernel) (by decide +kernel)
set_option maxRecDepth 20000 in
theorem gX5_found_X5_isPart : GoodIn wsX5_found (va_wsS RX5 91 yX5_isPart wsX5_isPart) := goodIn_app (goodIn_of _ (by decide +kernel)) ggX5_found_X5_isPart
set_option maxRecDepth 20000 in
theorem ggX5_found_X2_cells : GoodIn wsX5_found wsX2_cells := goodIn_r _ [26, 18, 19, 150, 151, 152] (by decide +kernel) (by decide +kernel)
set_option maxRecDepth 20000 in
theorem gX5_found_X2_cells : GoodIn wsX5_found (wsV RX5 70 RX2 yX2_cells wsX2_cells) := goodIn_app (goodIn_of _ (by decide +kernel)) ggX5_found_X2_cells
set_option maxRecDepth 20000 in
theorem ggX5_found_X2_kindAt : GoodIn wsX5_found wsX2_kindAt := goodIn_r _ [30, 31, 32, 24, 25, 12, 26, 18, 19, 150, 151, 152] (by decide +kernel) (by decide +kernel)
set_option maxRecDepth 20000 in
theorem gX5_found_X2_kindAt : GoodIn wsX5_found (wsV RX5 73 RX2 yX2_kindAt wsX2_kindAt) := goodIn_app (goodIn_of _ (by decide +kernel)) ggX5_found_X2_kindAt
set_option maxRecDepth 20000 in
theorem ggX5_found_X5_tryCell : GoodIn wsX5_found wsX5_tryCell := goodIn_r _ [36, 3, 1, 37, 38, 39, 12, 40, 18, 19, 31, 41, 42, 43, 44, 45, 46, 47, 48, 32, 24, 25, 26, 137, 138, 139, 140, 141, 142, 150, 151, 152] (by decide +kernel) (by decide +kernel)
set_option maxRecDepth 20000 in
theorem gX5_found_X5_tryCell : GoodIn wsX5_found (wsV RX5 76 RX5 yX5_tryCell wsX5_tryCell) := goodIn_app (goodIn_of _ (by decide +kernel)) ggX5_found_X5_tryCell
set_option maxRecDepth 20000 in
theorem ggX5_found_X0_shine : GoodIn wsX5_found wsX0_shine := goodIn_r _ [53, 54, 55, 56, 12, 57, 18, 19, 58, 59, 60, 61, 62, 63, 64, 52, 65, 66, 28, 29, 30, 31, 32, 24, 25, 26, 67, 7, 68, 69, 70, 71, 72, 73, 74, 75, 76, 77, 78, 79, 80, 81, 82, 83, 84, 85, 86, 87, 88, 89, 90, 91, 92, 93, 94, 95, 96, 97, 98, 99, 100, 101, 102, 103, 104, 105, 106, 107, 108, 109, 110, 111, 112, 113, 114, 115, 116, 117, 118, 119, 120, 121, 122, 123, 124, 125, 150, 151, 152, 143, 144, 145, 146, 147, 148, 149] (by decide +kernel) (by decide +kernel)
set_option maxRecDepth 20000 in
theorem gX5_found_X0_shine : GoodIn wsX5_found (wsV RX5 142 RX0 yX0_shine wsX0_shine) := goodIn_app (goodIn_of _ (by decide +kernel)) ggX5_found_X0_shine
set_option maxRecDepth 20000 in
theorem ggX5_found_X0_outAt : GoodIn wsX5_found wsX0_outAt := goodIn_r _ [129, 121, 143, 144, 145, 146, 147, 148, 149] (by decide +kernel) (by decide +kernel)
set_option maxRecDepth 20000 in
theorem gX5_found_X0_outAt : GoodIn wsX5_found (wsV RX5 146 RX0 yX0_outAt wsX0_outAt) := goodIn_app (goodIn_of _ (by decide +kernel)) ggX5_found_X0_outAt
set_option maxRecDepth 20000 in
theorem ggX5_found_X5_compareFractions : GoodIn wsX5_found wsX5_compareFractions := goodIn_r _ [132, 133, 134, 135, 136] (by decide +kernel) (by decide +kernel)
set_option maxRecDepth 20000 in
theorem gX5_found_X5_compareFractions : GoodIn wsX5_found (va_wsS RX5 177 yX5_compareFractions wsX5_compareFractions) := goodIn_app (goodIn_of _ (by decide +kernel)) ggX5_found_X5_compareFractions
theorem dX5_found_0 : decode cX5_found 0 = .ok (.aload_n 0, 1) := by decide +kernel
theorem dX5_found_1 : decode cX5_found 1 = .ok (.iload_n 1, 1) := by decide +kernel
theorem dX5_found_2 : decode cX5_found 2 = .ok (.iload_n 2, 1) := by decide +kernel
theorem dX5_found_3 : decode cX5_found 3 = .ok (.invokevirtual 139, 3) := by decide +kernel
theorem dX5_found_6 : decode cX5_found 6 = .ok (.ifCond .eq 37, 3) := by decide +kernel
theorem dX5_found_9 : decode cX5_found 9 = .ok (.iload_n 3, 1) := by decide +kernel
theorem dX5_found_10 : decode cX5_found 10 = .ok (.ifCond .lt 33, 3) := by decide +kernel
theorem dX5_found_13 : decode cX5_found 13 = .ok (.iload_n 3, 1) := by decide +kernel
theorem dX5_found_14 : decode cX5_found 14 = .ok (.sipush 1000, 3) := by decide +kernel
theorem dX5_found_17 : decode cX5_found 17 = .ok (.if_icmp .gt 26, 3) := by decide +kernel
theorem dX5_found_20 : decode cX5_found 20 = .ok (.iload 4, 2) := by decide +kernel
theorem dX5_found_22 : decode cX5_found 22 = .ok (.iconst 1, 1) := by decide +kernel
theorem dX5_found_23 : decode cX5_found 23 = .ok (.if_icmp .lt 20, 3) := by decide +kernel
theorem dX5_found_26 : decode cX5_found 26 = .ok (.iload 4, 2) := by decide +kernel
theorem dX5_found_28 : decode cX5_found 28 = .ok (.sipush 1000, 3) := by decide +kernel
theorem dX5_found_31 : decode cX5_found 31 = .ok (.if_icmp .gt 12, 3) := by decide +kernel
theorem dX5_found_34 : decode cX5_found 34 = .ok (.iload 5, 2) := by decide +kernel
theorem dX5_found_36 : decode cX5_found 36 = .ok (.iconst 2, 1) := by decide +kernel
theorem dX5_found_37 : decode cX5_found 37 = .ok (.invokestatic 91, 3) := by decide +kernel
theorem dX5_found_40 : decode cX5_found 40 = .ok (.ifCond .ne 5, 3) := by decide +kernel
theorem dX5_found_43 : decode cX5_found 43 = .ok (.iconst (-1), 1) := by decide +kernel
theorem dX5_found_44 : decode cX5_found 44 = .ok (.ireturn, 1) := by decide +kernel
theorem dX5_found_45 : decode cX5_found 45 = .ok (.iconst 0, 1) := by decide +kernel
theorem dX5_found_46 : decode cX5_found 46 = .ok (.istore 6, 2) := by decide +kernel
theorem dX5_found_48 : decode cX5_found 48 = .ok (.bipush (-4), 2) := by decide +kernel
theorem dX5_found_50 : decode cX5_found 50 = .ok (.istore 7, 2) := by decide +kernel
theorem dX5_found_52 : decode cX5_found 52 = .ok (.iconst 0, 1) := by decide +kernel
theorem dX5_found_53 : decode cX5_found 53 = .ok (.istore 8, 2) := by decide +kernel
theorem dX5_found_55 : decode cX5_found 55 = .ok (.iload 8, 2) := by decide +kernel
theorem dX5_found_57 : decode cX5_found 57 = .ok (.iconst 2, 1) := by decide +kernel
theorem dX5_found_58 : decode cX5_found 58 = .ok (.aload_n 0, 1) := by decide +kernel
theorem dX5_found_59 : decode cX5_found 59 = .ok (.getfield 19, 3) := by decide +kernel
theorem dX5_found_62 : decode cX5_found 62 = .ok (.invokevirtual 70, 3) := by decide +kernel
theorem dX5_found_65 : decode cX5_found 65 = .ok (.imul, 1) := by decide +kernel
theorem dX5_found_66 : decode cX5_found 66 = .ok (.if_icmp .ge 97, 3) := by decide +kernel
theorem dX5_found_69 : decode cX5_found 69 = .ok (.aload_n 0, 1) := by decide +kernel
theorem dX5_found_70 : decode cX5_found 70 = .ok (.getfield 19, 3) := by decide +kernel
theorem dX5_found_73 : decode cX5_found 73 = .ok (.iload 8, 2) := by decide +kernel
theorem dX5_found_75 : decode cX5_found 75 = .ok (.iconst 2, 1) := by decide +kernel
theorem dX5_found_76 : decode cX5_found 76 = .ok (.idiv, 1) := by decide +kernel
theorem dX5_found_77 : decode cX5_found 77 = .ok (.invokevirtual 73, 3) := by decide +kernel
theorem dX5_found_80 : decode cX5_found 80 = .ok (.ifCond .eq 6, 3) := by decide +kernel
theorem dX5_found_83 : decode cX5_found 83 = .ok (.goto 74, 3) := by decide +kernel
theorem dX5_found_86 : decode cX5_found 86 = .ok (.aload_n 0, 1) := by decide +kernel
theorem dX5_found_87 : decode cX5_found 87 = .ok (.iload 8, 2) := by decide +kernel
theorem dX5_found_89 : decode cX5_found 89 = .ok (.iconst 2, 1) := by decide +kernel
theorem dX5_found_90 : decode cX5_found 90 = .ok (.idiv, 1) := by decide +kernel
theorem dX5_found_91 : decode cX5_found 91 = .ok (.iconst 1, 1) := by decide +kernel
theorem dX5_found_92 : decode cX5_found 92 = .ok (.iload 8, 2) := by decide +kernel
theorem dX5_found_94 : decode cX5_found 94 = .ok (.iconst 2, 1) := by decide +kernel
theorem dX5_found_95 : decode cX5_found 95 = .ok (.irem, 1) := by decide +kernel
theorem dX5_found_96 : decode cX5_found 96 = .ok (.iadd, 1) := by decide +kernel
theorem dX5_found_97 : decode cX5_found 97 = .ok (.invokevirtual 76, 3) := by decide +kernel
theorem dX5_found_100 : decode cX5_found 100 = .ok (.aload_n 0, 1) := by decide +kernel
theorem dX5_found_101 : decode cX5_found 101 = .ok (.getfield 43, 3) := by decide +kernel
theorem dX5_found_104 : decode cX5_found 104 = .ok (.aload_n 0, 1) := by decide +kernel
theorem dX5_found_105 : decode cX5_found 105 = .ok (.getfield 23, 3) := by decide +kernel
theorem dX5_found_108 : decode cX5_found 108 = .ok (.iload_n 1, 1) := by decide +kernel
theorem dX5_found_109 : decode cX5_found 109 = .ok (.invokevirtual 142, 3) := by decide +kernel
theorem dX5_found_112 : decode cX5_found 112 = .ok (.aload_n 0, 1) := by decide +kernel
theorem dX5_found_113 : decode cX5_found 113 = .ok (.getfield 43, 3) := by decide +kernel
theorem dX5_found_116 : decode cX5_found 116 = .ok (.iload_n 2, 1) := by decide +kernel
theorem dX5_found_117 : decode cX5_found 117 = .ok (.invokevirtual 146, 3) := by decide +kernel
theorem dX5_found_120 : decode cX5_found 120 = .ok (.aload_n 0, 1) := by decide +kernel
theorem dX5_found_121 : decode cX5_found 121 = .ok (.getfield 43, 3) := by decide +kernel
theorem dX5_found_124 : decode cX5_found 124 = .ok (.getfield 150, 3) := by decide +kernel
theorem dX5_found_127 : decode cX5_found 127 = .ok (.iload_n 3, 1) := by decide +kernel
theorem dX5_found_128 : decode cX5_found 128 = .ok (.i2l, 1) := by decide +kernel
theorem dX5_found_129 : decode cX5_found 129 = .ok (.iload 4, 2) := by decide +kernel
theorem dX5_found_131 : decode cX5_found 131 = .ok (.i2l, 1) := by decide +kernel
theorem dX5_found_132 : decode cX5_found 132 = .ok (.invokestatic 177, 3) := by decide +kernel
theorem dX5_found_135 : decode cX5_found 135 = .ok (.ifCond .ne 22, 3) := by decide +kernel
theorem dX5_found_138 : decode cX5_found 138 = .ok (.iinc 6 1, 3) := by decide +kernel
theorem dX5_found_141 : decode cX5_found 141 = .ok (.iload 7, 2) := by decide +kernel
theorem dX5_found_143 : decode cX5_found 143 = .ok (.bipush (-4), 2) := by decide +kernel
theorem dX5_found_145 : decode cX5_found 145 = .ok (.if_icmp .ne 8, 3) := by decide +kernel
theorem dX5_found_148 : decode cX5_found 148 = .ok (.iload 8, 2) := by decide +kernel
theorem dX5_found_150 : decode cX5_found 150 = .ok (.goto 5, 3) := by decide +kernel
theorem dX5_found_153 : decode cX5_found 153 = .ok (.iload 7, 2) := by decide +kernel
theorem dX5_found_155 : decode cX5_found 155 = .ok (.istore 7, 2) := by decide +kernel
theorem dX5_found_157 : decode cX5_found 157 = .ok (.iinc 8 1, 3) := by decide +kernel
theorem dX5_found_160 : decode cX5_found 160 = .ok (.goto (-105), 3) := by decide +kernel
theorem dX5_found_163 : decode cX5_found 163 = .ok (.iload 5, 2) := by decide +kernel
theorem dX5_found_165 : decode cX5_found 165 = .ok (.ifCond .ne 8, 3) := by decide +kernel
theorem dX5_found_168 : decode cX5_found 168 = .ok (.iload 6, 2) := by decide +kernel
theorem dX5_found_170 : decode cX5_found 170 = .ok (.goto 5, 3) := by decide +kernel
theorem dX5_found_173 : decode cX5_found 173 = .ok (.iload 7, 2) := by decide +kernel
theorem dX5_found_175 : decode cX5_found 175 = .ok (.ireturn, 1) := by decide +kernel
set_option maxRecDepth 20000 in
theorem ggX5_count_X2_countKinds : GoodIn wsX5_count wsX2_countKinds := goodIn_r _ [8, 9, 10, 11, 7, 12, 13, 14, 15, 16, 17, 18, 19, 30, 31, 32] (by decide +kernel) (by decide +kernel)
set_option maxRecDepth 20000 in
theorem gX5_count_X2_countKinds : GoodIn wsX5_count (wsV RX5 95 RX2 yX2_countKinds wsX2_countKinds) := goodIn_app (goodIn_of _ (by decide +kernel)) ggX5_count_X2_countKinds
set_option maxRecDepth 20000 in
theorem ggX5_count_X2_ports : GoodIn wsX5_count wsX2_ports := goodIn_r _ [23, 13, 14, 30, 31, 32] (by decide +kernel) (by decide +kernel)
set_option maxRecDepth 20000 in
theorem gX5_count_X2_ports : GoodIn wsX5_count (wsV RX5 192 RX2 yX2_ports wsX2_ports) := goodIn_app (goodIn_of _ (by decide +kernel)) ggX5_count_X2_ports
theorem dX5_count_0 : decode cX5_count 0 = .ok (.iload_n 1, 1) := by decide +kernel
theorem dX5_count_1 : decode cX5_count 1 = .ok (.tableswitch 149 0 9 #[55, 63, 71, 81, 93, 105, 115, 125, 133, 141], 55) := by decide +kernel
theorem dX5_count_56 : decode cX5_count 56 = .ok (.aload_n 0, 1) := by decide +kernel
theorem dX5_count_57 : decode cX5_count 57 = .ok (.getfield 19, 3) := by decide +kernel
theorem dX5_count_60 : decode cX5_count 60 = .ok (.getfield 99, 3) := by decide +kernel
theorem dX5_count_63 : decode cX5_count 63 = .ok (.ireturn, 1) := by decide +kernel
theorem dX5_count_64 : decode cX5_count 64 = .ok (.aload_n 0, 1) := by decide +kernel
theorem dX5_count_65 : decode cX5_count 65 = .ok (.getfield 19, 3) := by decide +kernel
theorem dX5_count_68 : decode cX5_count 68 = .ok (.getfield 59, 3) := by decide +kernel
theorem dX5_count_71 : decode cX5_count 71 = .ok (.ireturn, 1) := by decide +kernel
theorem dX5_count_72 : decode cX5_count 72 = .ok (.aload_n 0, 1) := by decide +kernel
theorem dX5_count_73 : decode cX5_count 73 = .ok (.getfield 19, 3) := by decide +kernel
theorem dX5_count_76 : decode cX5_count 76 = .ok (.iconst 3, 1) := by decide +kernel
theorem dX5_count_77 : decode cX5_count 77 = .ok (.iconst 4, 1) := by decide +kernel
theorem dX5_count_78 : decode cX5_count 78 = .ok (.invokevirtual 95, 3) := by decide +kernel
theorem dX5_count_81 : decode cX5_count 81 = .ok (.ireturn, 1) := by decide +kernel
theorem dX5_count_82 : decode cX5_count 82 = .ok (.aload_n 0, 1) := by decide +kernel
theorem dX5_count_83 : decode cX5_count 83 = .ok (.getfield 19, 3) := by decide +kernel
theorem dX5_count_86 : decode cX5_count 86 = .ok (.bipush 6, 2) := by decide +kernel
theorem dX5_count_88 : decode cX5_count 88 = .ok (.bipush 7, 2) := by decide +kernel
theorem dX5_count_90 : decode cX5_count 90 = .ok (.invokevirtual 95, 3) := by decide +kernel
theorem dX5_count_93 : decode cX5_count 93 = .ok (.ireturn, 1) := by decide +kernel
theorem dX5_count_94 : decode cX5_count 94 = .ok (.aload_n 0, 1) := by decide +kernel
theorem dX5_count_95 : decode cX5_count 95 = .ok (.getfield 19, 3) := by decide +kernel
theorem dX5_count_98 : decode cX5_count 98 = .ok (.bipush 6, 2) := by decide +kernel
theorem dX5_count_100 : decode cX5_count 100 = .ok (.bipush 6, 2) := by decide +kernel
theorem dX5_count_102 : decode cX5_count 102 = .ok (.invokevirtual 95, 3) := by decide +kernel
theorem dX5_count_105 : decode cX5_count 105 = .ok (.ireturn, 1) := by decide +kernel
theorem dX5_count_106 : decode cX5_count 106 = .ok (.aload_n 0, 1) := by decide +kernel
theorem dX5_count_107 : decode cX5_count 107 = .ok (.getfield 19, 3) := by decide +kernel
theorem dX5_count_110 : decode cX5_count 110 = .ok (.iconst 5, 1) := by decide +kernel
theorem dX5_count_111 : decode cX5_count 111 = .ok (.iconst 5, 1) := by decide +kernel
theorem dX5_count_112 : decode cX5_count 112 = .ok (.invokevirtual 95, 3) := by decide +kernel
theorem dX5_count_115 : decode cX5_count 115 = .ok (.ireturn, 1) := by decide +kernel
theorem dX5_count_116 : decode cX5_count 116 = .ok (.aload_n 0, 1) := by decide +kernel
theorem dX5_count_117 : decode cX5_count 117 = .ok (.getfield 19, 3) := by decide +kernel
theorem dX5_count_120 : decode cX5_count 120 = .ok (.iconst 1, 1) := by decide +kernel
theorem dX5_count_121 : decode cX5_count 121 = .ok (.iconst 2, 1) := by decide +kernel
theorem dX5_count_122 : decode cX5_count 122 = .ok (.invokevirtual 95, 3) := by decide +kernel
theorem dX5_count_125 : decode cX5_count 125 = .ok (.ireturn, 1) := by decide +kernel
theorem dX5_count_126 : decode cX5_count 126 = .ok (.aload_n 0, 1) := by decide +kernel
theorem dX5_count_127 : decode cX5_count 127 = .ok (.getfield 19, 3) := by decide +kernel
theorem dX5_count_130 : decode cX5_count 130 = .ok (.invokevirtual 192, 3) := by decide +kernel
theorem dX5_count_133 : decode cX5_count 133 = .ok (.ireturn, 1) := by decide +kernel
theorem dX5_count_134 : decode cX5_count 134 = .ok (.aload_n 0, 1) := by decide +kernel
theorem dX5_count_135 : decode cX5_count 135 = .ok (.getfield 29, 3) := by decide +kernel
theorem dX5_count_138 : decode cX5_count 138 = .ok (.getfield 108, 3) := by decide +kernel
theorem dX5_count_141 : decode cX5_count 141 = .ok (.ireturn, 1) := by decide +kernel
theorem dX5_count_142 : decode cX5_count 142 = .ok (.aload_n 0, 1) := by decide +kernel
theorem dX5_count_143 : decode cX5_count 143 = .ok (.getfield 12, 3) := by decide +kernel
theorem dX5_count_146 : decode cX5_count 146 = .ok (.getfield 195, 3) := by decide +kernel
theorem dX5_count_149 : decode cX5_count 149 = .ok (.ireturn, 1) := by decide +kernel
theorem dX5_count_150 : decode cX5_count 150 = .ok (.iconst (-1), 1) := by decide +kernel
theorem dX5_count_151 : decode cX5_count 151 = .ok (.ireturn, 1) := by decide +kernel
set_option maxRecDepth 20000 in
theorem ggX5_hasPorts_X2_hasPort : GoodIn wsX5_hasPorts wsX2_hasPort := goodIn_r _ [6, 7, 8, 9, 5, 10, 11, 12, 19, 20, 21] (by decide +kernel) (by decide +kernel)
set_option maxRecDepth 20000 in
theorem gX5_hasPorts_X2_hasPort : GoodIn wsX5_hasPorts (wsV RX5 129 RX2 yX2_hasPort wsX2_hasPort) := goodIn_app (goodIn_of _ (by decide +kernel)) ggX5_hasPorts_X2_hasPort
theorem dX5_hasPorts_0 : decode cX5_hasPorts 0 = .ok (.aload_n 0, 1) := by decide +kernel
theorem dX5_hasPorts_1 : decode cX5_hasPorts 1 = .ok (.getfield 19, 3) := by decide +kernel
theorem dX5_hasPorts_4 : decode cX5_hasPorts 4 = .ok (.iload_n 1, 1) := by decide +kernel
theorem dX5_hasPorts_5 : decode cX5_hasPorts 5 = .ok (.invokevirtual 129, 3) := by decide +kernel
theorem dX5_hasPorts_8 : decode cX5_hasPorts 8 = .ok (.ifCond .eq 18, 3) := by decide +kernel
theorem dX5_hasPorts_11 : decode cX5_hasPorts 11 = .ok (.aload_n 0, 1) := by decide +kernel
theorem dX5_hasPorts_12 : decode cX5_hasPorts 12 = .ok (.getfield 19, 3) := by decide +kernel
theorem dX5_hasPorts_15 : decode cX5_hasPorts 15 = .ok (.iload_n 2, 1) := by decide +kernel
theorem dX5_hasPorts_16 : decode cX5_hasPorts 16 = .ok (.invokevirtual 129, 3) := by decide +kernel
theorem dX5_hasPorts_19 : decode cX5_hasPorts 19 = .ok (.ifCond .eq 7, 3) := by decide +kernel
theorem dX5_hasPorts_22 : decode cX5_hasPorts 22 = .ok (.iconst 1, 1) := by decide +kernel
theorem dX5_hasPorts_23 : decode cX5_hasPorts 23 = .ok (.goto 4, 3) := by decide +kernel
theorem dX5_hasPorts_26 : decode cX5_hasPorts 26 = .ok (.iconst 0, 1) := by decide +kernel
theorem dX5_hasPorts_27 : decode cX5_hasPorts 27 = .ok (.ireturn, 1) := by decide +kernel
theorem dX5_isPart_0 : decode cX5_isPart 0 = .ok (.iload_n 0, 1) := by decide +kernel
theorem dX5_isPart_1 : decode cX5_isPart 1 = .ok (.ifCond .lt 12, 3) := by decide +kernel
theorem dX5_isPart_4 : decode cX5_isPart 4 = .ok (.iload_n 0, 1) := by decide +kernel
theorem dX5_isPart_5 : decode cX5_isPart 5 = .ok (.iload_n 1, 1) := by decide +kernel
theorem dX5_isPart_6 : decode cX5_isPart 6 = .ok (.if_icmp .ge 7, 3) := by decide +kernel
theorem dX5_isPart_9 : decode cX5_isPart 9 = .ok (.iconst 1, 1) := by decide +kernel
theorem dX5_isPart_10 : decode cX5_isPart 10 = .ok (.goto 4, 3) := by decide +kernel
theorem dX5_isPart_13 : decode cX5_isPart 13 = .ok (.iconst 0, 1) := by decide +kernel
theorem dX5_isPart_14 : decode cX5_isPart 14 = .ok (.ireturn, 1) := by decide +kernel
set_option maxRecDepth 20000 in
theorem ggX5_openOnly_X2_become : GoodIn wsX5_openOnly wsX2_become := goodIn_r _ [7, 8, 9, 10, 11, 12, 13, 14, 37, 38, 39] (by decide +kernel) (by decide +kernel)
set_option maxRecDepth 20000 in
theorem gX5_openOnly_X2_become : GoodIn wsX5_openOnly (wsV RX5 63 RX2 yX2_become wsX2_become) := goodIn_app (goodIn_of _ (by decide +kernel)) ggX5_openOnly_X2_become
set_option maxRecDepth 20000 in
theorem ggX5_openOnly_X2_doorCell : GoodIn wsX5_openOnly wsX2_doorCell := goodIn_r _ [18, 19, 20, 21, 6, 22, 8, 9, 23, 24, 25, 26, 10, 37, 38, 39] (by decide +kernel) (by decide +kernel)
set_option maxRecDepth 20000 in
theorem gX5_openOnly_X2_doorCell : GoodIn wsX5_openOnly (wsV RX5 88 RX2 yX2_doorCell wsX2_doorCell) := goodIn_app (goodIn_of _ (by decide +kernel)) ggX5_openOnly_X2_doorCell
set_option maxRecDepth 20000 in
theorem ggX5_openOnly_X2_tell : GoodIn wsX5_openOnly wsX2_tell := goodIn_r _ [30, 10, 19, 20, 21, 6, 22, 8, 9, 37, 38, 39] (by decide +kernel) (by decide +kernel)
set_option maxRecDepth 20000 in
theorem gX5_openOnly_X2_tell : GoodIn wsX5_openOnly (wsV RX5 120 RX2 yX2_tell wsX2_tell) := goodIn_app (goodIn_of _ (by decide +kernel)) ggX5_openOnly_X2_tell
theorem dX5_openOnly_0 : decode cX5_openOnly 0 = .ok (.aload_n 0, 1) := by decide +kernel
theorem dX5_openOnly_1 : decode cX5_openOnly 1 = .ok (.getfield 23, 3) := by decide +kernel
theorem dX5_openOnly_4 : decode cX5_openOnly 4 = .ok (.aload_n 0, 1) := by decide +kernel
theorem dX5_openOnly_5 : decode cX5_openOnly 5 = .ok (.getfield 19, 3) := by decide +kernel
theorem dX5_openOnly_8 : decode cX5_openOnly 8 = .ok (.invokevirtual 63, 3) := by decide +kernel
theorem dX5_openOnly_11 : decode cX5_openOnly 11 = .ok (.iconst 0, 1) := by decide +kernel
theorem dX5_openOnly_12 : decode cX5_openOnly 12 = .ok (.istore_n 2, 1) := by decide +kernel
theorem dX5_openOnly_13 : decode cX5_openOnly 13 = .ok (.iload_n 2, 1) := by decide +kernel
theorem dX5_openOnly_14 : decode cX5_openOnly 14 = .ok (.iconst 4, 1) := by decide +kernel
theorem dX5_openOnly_15 : decode cX5_openOnly 15 = .ok (.if_icmp .ge 40, 3) := by decide +kernel
theorem dX5_openOnly_18 : decode cX5_openOnly 18 = .ok (.aload_n 0, 1) := by decide +kernel
theorem dX5_openOnly_19 : decode cX5_openOnly 19 = .ok (.getfield 23, 3) := by decide +kernel
theorem dX5_openOnly_22 : decode cX5_openOnly 22 = .ok (.aload_n 0, 1) := by decide +kernel
theorem dX5_openOnly_23 : decode cX5_openOnly 23 = .ok (.getfield 19, 3) := by decide +kernel
theorem dX5_openOnly_26 : decode cX5_openOnly 26 = .ok (.iload_n 2, 1) := by decide +kernel
theorem dX5_openOnly_27 : decode cX5_openOnly 27 = .ok (.invokevirtual 88, 3) := by decide +kernel
theorem dX5_openOnly_30 : decode cX5_openOnly 30 = .ok (.iload_n 1, 1) := by decide +kernel
theorem dX5_openOnly_31 : decode cX5_openOnly 31 = .ok (.iload_n 2, 1) := by decide +kernel
theorem dX5_openOnly_32 : decode cX5_openOnly 32 = .ok (.ishr, 1) := by decide +kernel
theorem dX5_openOnly_33 : decode cX5_openOnly 33 = .ok (.iconst 1, 1) := by decide +kernel
theorem dX5_openOnly_34 : decode cX5_openOnly 34 = .ok (.iand, 1) := by decide +kernel
theorem dX5_openOnly_35 : decode cX5_openOnly 35 = .ok (.iconst 1, 1) := by decide +kernel
theorem dX5_openOnly_36 : decode cX5_openOnly 36 = .ok (.if_icmp .ne 8, 3) := by decide +kernel
theorem dX5_openOnly_39 : decode cX5_openOnly 39 = .ok (.bipush 6, 2) := by decide +kernel
theorem dX5_openOnly_41 : decode cX5_openOnly 41 = .ok (.goto 5, 3) := by decide +kernel
theorem dX5_openOnly_44 : decode cX5_openOnly 44 = .ok (.bipush 7, 2) := by decide +kernel
theorem dX5_openOnly_46 : decode cX5_openOnly 46 = .ok (.invokevirtual 120, 3) := by decide +kernel
theorem dX5_openOnly_49 : decode cX5_openOnly 49 = .ok (.iinc 2 1, 3) := by decide +kernel
theorem dX5_openOnly_52 : decode cX5_openOnly 52 = .ok (.goto (-39), 3) := by decide +kernel
theorem dX5_openOnly_55 : decode cX5_openOnly 55 = .ok (.return_, 1) := by decide +kernel
set_option maxRecDepth 20000 in
theorem ggX5_tryCell_X2_become : GoodIn wsX5_tryCell wsX2_become := goodIn_r _ [7, 8, 9, 10, 11, 12, 13, 14, 29, 30, 31] (by decide +kernel) (by decide +kernel)
set_option maxRecDepth 20000 in
theorem gX5_tryCell_X2_become : GoodIn wsX5_tryCell (wsV RX5 63 RX2 yX2_become wsX2_become) := goodIn_app (goodIn_of _ (by decide +kernel)) ggX5_tryCell_X2_become
set_option maxRecDepth 20000 in
theorem ggX5_tryCell_X2_tell : GoodIn wsX5_tryCell wsX2_tell := goodIn_r _ [18, 10, 19, 20, 21, 6, 22, 8, 9, 29, 30, 31] (by decide +kernel) (by decide +kernel)
set_option maxRecDepth 20000 in
theorem gX5_tryCell_X2_tell : GoodIn wsX5_tryCell (wsV RX5 120 RX2 yX2_tell wsX2_tell) := goodIn_app (goodIn_of _ (by decide +kernel)) ggX5_tryCell_X2_tell
theorem dX5_tryCell_0 : decode cX5_tryCell 0 = .ok (.aload_n 0, 1) := by decide +kernel
theorem dX5_tryCell_1 : decode cX5_tryCell 1 = .ok (.getfield 23, 3) := by decide +kernel
theorem dX5_tryCell_4 : decode cX5_tryCell 4 = .ok (.aload_n 0, 1) := by decide +kernel
theorem dX5_tryCell_5 : decode cX5_tryCell 5 = .ok (.getfield 19, 3) := by decide +kernel
theorem dX5_tryCell_8 : decode cX5_tryCell 8 = .ok (.invokevirtual 63, 3) := by decide +kernel
theorem dX5_tryCell_11 : decode cX5_tryCell 11 = .ok (.aload_n 0, 1) := by decide +kernel
theorem dX5_tryCell_12 : decode cX5_tryCell 12 = .ok (.getfield 23, 3) := by decide +kernel
theorem dX5_tryCell_15 : decode cX5_tryCell 15 = .ok (.iload_n 1, 1) := by decide +kernel
theorem dX5_tryCell_16 : decode cX5_tryCell 16 = .ok (.iload_n 2, 1) := by decide +kernel
theorem dX5_tryCell_17 : decode cX5_tryCell 17 = .ok (.invokevirtual 120, 3) := by decide +kernel
theorem dX5_tryCell_20 : decode cX5_tryCell 20 = .ok (.return_, 1) := by decide +kernel
set_option maxRecDepth 20000 in
theorem ggX5_compareFractions_J13_compare_74951 : GoodIn wsX5_compareFractions wsJ13_compare_74951 := goodIn_r _ [4] (by decide +kernel) (by decide +kernel)
set_option maxRecDepth 20000 in
theorem gX5_compareFractions_J13_compare_74951 : GoodIn wsX5_compareFractions (va_wsS RX5 198 yJ13_compare_74951 wsJ13_compare_74951) := goodIn_app (goodIn_of _ (by decide +kernel)) ggX5_compareFractions_J13_compare_74951
theorem dX5_compareFractions_0 : decode cX5_compareFractions 0 = .ok (.lload_n 0, 1) := by decide +kernel
theorem dX5_compareFractions_1 : decode cX5_compareFractions 1 = .ok (.lload 6, 2) := by decide +kernel
theorem dX5_compareFractions_3 : decode cX5_compareFractions 3 = .ok (.lmul, 1) := by decide +kernel
theorem dX5_compareFractions_4 : decode cX5_compareFractions 4 = .ok (.lload 4, 2) := by decide +kernel
theorem dX5_compareFractions_6 : decode cX5_compareFractions 6 = .ok (.lload_n 2, 1) := by decide +kernel
theorem dX5_compareFractions_7 : decode cX5_compareFractions 7 = .ok (.lmul, 1) := by decide +kernel
theorem dX5_compareFractions_8 : decode cX5_compareFractions 8 = .ok (.invokestatic 198, 3) := by decide +kernel
theorem dX5_compareFractions_11 : decode cX5_compareFractions 11 = .ok (.ireturn, 1) := by decide +kernel
set_option maxRecDepth 20000 in
theorem ggX5_lowest_X5_commonDivisor : GoodIn wsX5_lowest wsX5_commonDivisor := goodIn_r _ [4] (by decide +kernel) (by decide +kernel)
set_option maxRecDepth 20000 in
theorem gX5_lowest_X5_commonDivisor : GoodIn wsX5_lowest (va_wsS RX5 204 yX5_commonDivisor wsX5_commonDivisor) := goodIn_app (goodIn_of _ (by decide +kernel)) ggX5_lowest_X5_commonDivisor
theorem dX5_lowest_0 : decode cX5_lowest 0 = .ok (.lload_n 0, 1) := by decide +kernel
theorem dX5_lowest_1 : decode cX5_lowest 1 = .ok (.lload_n 2, 1) := by decide +kernel
theorem dX5_lowest_2 : decode cX5_lowest 2 = .ok (.invokestatic 204, 3) := by decide +kernel
theorem dX5_lowest_5 : decode cX5_lowest 5 = .ok (.lstore 5, 2) := by decide +kernel
theorem dX5_lowest_7 : decode cX5_lowest 7 = .ok (.lload 5, 2) := by decide +kernel
theorem dX5_lowest_9 : decode cX5_lowest 9 = .ok (.lconst 0, 1) := by decide +kernel
theorem dX5_lowest_10 : decode cX5_lowest 10 = .ok (.lcmp, 1) := by decide +kernel
theorem dX5_lowest_11 : decode cX5_lowest 11 = .ok (.ifCond .ne 6, 3) := by decide +kernel
theorem dX5_lowest_14 : decode cX5_lowest 14 = .ok (.iload 4, 2) := by decide +kernel
theorem dX5_lowest_16 : decode cX5_lowest 16 = .ok (.ireturn, 1) := by decide +kernel
theorem dX5_lowest_17 : decode cX5_lowest 17 = .ok (.iload 4, 2) := by decide +kernel
theorem dX5_lowest_19 : decode cX5_lowest 19 = .ok (.ifCond .ne 7, 3) := by decide +kernel
theorem dX5_lowest_22 : decode cX5_lowest 22 = .ok (.lload_n 0, 1) := by decide +kernel
theorem dX5_lowest_23 : decode cX5_lowest 23 = .ok (.goto 4, 3) := by decide +kernel
theorem dX5_lowest_26 : decode cX5_lowest 26 = .ok (.lload_n 2, 1) := by decide +kernel
theorem dX5_lowest_27 : decode cX5_lowest 27 = .ok (.lload 5, 2) := by decide +kernel
theorem dX5_lowest_29 : decode cX5_lowest 29 = .ok (.ldiv, 1) := by decide +kernel
theorem dX5_lowest_30 : decode cX5_lowest 30 = .ok (.l2i, 1) := by decide +kernel
theorem dX5_lowest_31 : decode cX5_lowest 31 = .ok (.ireturn, 1) := by decide +kernel
theorem dX5_commonDivisor_0 : decode cX5_commonDivisor 0 = .ok (.lload_n 0, 1) := by decide +kernel
theorem dX5_commonDivisor_1 : decode cX5_commonDivisor 1 = .ok (.lstore 4, 2) := by decide +kernel
theorem dX5_commonDivisor_3 : decode cX5_commonDivisor 3 = .ok (.lload_n 2, 1) := by decide +kernel
theorem dX5_commonDivisor_4 : decode cX5_commonDivisor 4 = .ok (.lstore 6, 2) := by decide +kernel
theorem dX5_commonDivisor_6 : decode cX5_commonDivisor 6 = .ok (.iconst 0, 1) := by decide +kernel
theorem dX5_commonDivisor_7 : decode cX5_commonDivisor 7 = .ok (.istore 8, 2) := by decide +kernel
theorem dX5_commonDivisor_9 : decode cX5_commonDivisor 9 = .ok (.iload 8, 2) := by decide +kernel
theorem dX5_commonDivisor_11 : decode cX5_commonDivisor 11 = .ok (.bipush 100, 2) := by decide +kernel
theorem dX5_commonDivisor_13 : decode cX5_commonDivisor 13 = .ok (.if_icmp .ge 31, 3) := by decide +kernel
theorem dX5_commonDivisor_16 : decode cX5_commonDivisor 16 = .ok (.lload 6, 2) := by decide +kernel
theorem dX5_commonDivisor_18 : decode cX5_commonDivisor 18 = .ok (.lconst 0, 1) := by decide +kernel
theorem dX5_commonDivisor_19 : decode cX5_commonDivisor 19 = .ok (.lcmp, 1) := by decide +kernel
theorem dX5_commonDivisor_20 : decode cX5_commonDivisor 20 = .ok (.ifCond .eq 24, 3) := by decide +kernel
theorem dX5_commonDivisor_23 : decode cX5_commonDivisor 23 = .ok (.lload 4, 2) := by decide +kernel
theorem dX5_commonDivisor_25 : decode cX5_commonDivisor 25 = .ok (.lload 6, 2) := by decide +kernel
theorem dX5_commonDivisor_27 : decode cX5_commonDivisor 27 = .ok (.lrem, 1) := by decide +kernel
theorem dX5_commonDivisor_28 : decode cX5_commonDivisor 28 = .ok (.lstore 9, 2) := by decide +kernel
theorem dX5_commonDivisor_30 : decode cX5_commonDivisor 30 = .ok (.lload 6, 2) := by decide +kernel
theorem dX5_commonDivisor_32 : decode cX5_commonDivisor 32 = .ok (.lstore 4, 2) := by decide +kernel
theorem dX5_commonDivisor_34 : decode cX5_commonDivisor 34 = .ok (.lload 9, 2) := by decide +kernel
theorem dX5_commonDivisor_36 : decode cX5_commonDivisor 36 = .ok (.lstore 6, 2) := by decide +kernel
theorem dX5_commonDivisor_38 : decode cX5_commonDivisor 38 = .ok (.iinc 8 1, 3) := by decide +kernel
theorem dX5_commonDivisor_41 : decode cX5_commonDivisor 41 = .ok (.goto (-32), 3) := by decide +kernel
theorem dX5_commonDivisor_44 : decode cX5_commonDivisor 44 = .ok (.lload 4, 2) := by decide +kernel
theorem dX5_commonDivisor_46 : decode cX5_commonDivisor 46 = .ok (.lreturn, 1) := by decide +kernel
theorem dX5_floatBits_0 : decode cX5_floatBits 0 = .ok (.iload_n 0, 1) := by decide +kernel
theorem dX5_floatBits_1 : decode cX5_floatBits 1 = .ok (.ifCond .le 7, 3) := by decide +kernel
theorem dX5_floatBits_4 : decode cX5_floatBits 4 = .ok (.iload_n 1, 1) := by decide +kernel
theorem dX5_floatBits_5 : decode cX5_floatBits 5 = .ok (.ifCond .gt 5, 3) := by decide +kernel
theorem dX5_floatBits_8 : decode cX5_floatBits 8 = .ok (.iconst 0, 1) := by decide +kernel
theorem dX5_floatBits_9 : decode cX5_floatBits 9 = .ok (.ireturn, 1) := by decide +kernel
theorem dX5_floatBits_10 : decode cX5_floatBits 10 = .ok (.ldc 208, 2) := by decide +kernel
theorem dX5_floatBits_12 : decode cX5_floatBits 12 = .ok (.fstore_n 2, 1) := by decide +kernel
theorem dX5_floatBits_13 : decode cX5_floatBits 13 = .ok (.iload_n 0, 1) := by decide +kernel
theorem dX5_floatBits_14 : decode cX5_floatBits 14 = .ok (.i2f, 1) := by decide +kernel
theorem dX5_floatBits_15 : decode cX5_floatBits 15 = .ok (.iload_n 1, 1) := by decide +kernel
theorem dX5_floatBits_16 : decode cX5_floatBits 16 = .ok (.i2f, 1) := by decide +kernel
theorem dX5_floatBits_17 : decode cX5_floatBits 17 = .ok (.fdiv, 1) := by decide +kernel
theorem dX5_floatBits_18 : decode cX5_floatBits 18 = .ok (.fstore_n 3, 1) := by decide +kernel
theorem dX5_floatBits_19 : decode cX5_floatBits 19 = .ok (.sipush 150, 3) := by decide +kernel
theorem dX5_floatBits_22 : decode cX5_floatBits 22 = .ok (.istore 4, 2) := by decide +kernel
theorem dX5_floatBits_24 : decode cX5_floatBits 24 = .ok (.iconst 0, 1) := by decide +kernel
theorem dX5_floatBits_25 : decode cX5_floatBits 25 = .ok (.istore 5, 2) := by decide +kernel
theorem dX5_floatBits_27 : decode cX5_floatBits 27 = .ok (.iload 5, 2) := by decide +kernel
theorem dX5_floatBits_29 : decode cX5_floatBits 29 = .ok (.bipush 127, 2) := by decide +kernel
theorem dX5_floatBits_31 : decode cX5_floatBits 31 = .ok (.if_icmp .ge 22, 3) := by decide +kernel
theorem dX5_floatBits_34 : decode cX5_floatBits 34 = .ok (.fload_n 3, 1) := by decide +kernel
theorem dX5_floatBits_35 : decode cX5_floatBits 35 = .ok (.fload_n 2, 1) := by decide +kernel
theorem dX5_floatBits_36 : decode cX5_floatBits 36 = .ok (.fcmp .g, 1) := by decide +kernel
theorem dX5_floatBits_37 : decode cX5_floatBits 37 = .ok (.ifCond .ge 16, 3) := by decide +kernel
theorem dX5_floatBits_40 : decode cX5_floatBits 40 = .ok (.fload_n 3, 1) := by decide +kernel
theorem dX5_floatBits_41 : decode cX5_floatBits 41 = .ok (.fconst 2, 1) := by decide +kernel
theorem dX5_floatBits_42 : decode cX5_floatBits 42 = .ok (.fmul, 1) := by decide +kernel
theorem dX5_floatBits_43 : decode cX5_floatBits 43 = .ok (.fstore_n 3, 1) := by decide +kernel
theorem dX5_floatBits_44 : decode cX5_floatBits 44 = .ok (.iinc 4 (-1), 3) := by decide +kernel
theorem dX5_floatBits_47 : decode cX5_floatBits 47 = .ok (.iinc 5 1, 3) := by decide +kernel
theorem dX5_floatBits_50 : decode cX5_floatBits 50 = .ok (.goto (-23), 3) := by decide +kernel
theorem dX5_floatBits_53 : decode cX5_floatBits 53 = .ok (.iload 4, 2) := by decide +kernel
theorem dX5_floatBits_55 : decode cX5_floatBits 55 = .ok (.bipush 23, 2) := by decide +kernel
theorem dX5_floatBits_57 : decode cX5_floatBits 57 = .ok (.ishl, 1) := by decide +kernel
theorem dX5_floatBits_58 : decode cX5_floatBits 58 = .ok (.fload_n 3, 1) := by decide +kernel
theorem dX5_floatBits_59 : decode cX5_floatBits 59 = .ok (.fload_n 2, 1) := by decide +kernel
theorem dX5_floatBits_60 : decode cX5_floatBits 60 = .ok (.fsub, 1) := by decide +kernel
theorem dX5_floatBits_61 : decode cX5_floatBits 61 = .ok (.f2i, 1) := by decide +kernel
theorem dX5_floatBits_62 : decode cX5_floatBits 62 = .ok (.iadd, 1) := by decide +kernel
theorem dX5_floatBits_63 : decode cX5_floatBits 63 = .ok (.ireturn, 1) := by decide +kernel
theorem dX5_isHalf_0 : decode cX5_isHalf 0 = .ok (.iload_n 0, 1) := by decide +kernel
theorem dX5_isHalf_1 : decode cX5_isHalf 1 = .ok (.iconst 3, 1) := by decide +kernel
theorem dX5_isHalf_2 : decode cX5_isHalf 2 = .ok (.if_icmp .eq 8, 3) := by decide +kernel
theorem dX5_isHalf_5 : decode cX5_isHalf 5 = .ok (.iload_n 0, 1) := by decide +kernel
theorem dX5_isHalf_6 : decode cX5_isHalf 6 = .ok (.iconst 4, 1) := by decide +kernel
theorem dX5_isHalf_7 : decode cX5_isHalf 7 = .ok (.if_icmp .ne 7, 3) := by decide +kernel
theorem dX5_isHalf_10 : decode cX5_isHalf 10 = .ok (.iconst 1, 1) := by decide +kernel
theorem dX5_isHalf_11 : decode cX5_isHalf 11 = .ok (.goto 4, 3) := by decide +kernel
theorem dX5_isHalf_14 : decode cX5_isHalf 14 = .ok (.iconst 0, 1) := by decide +kernel
theorem dX5_isHalf_15 : decode cX5_isHalf 15 = .ok (.ireturn, 1) := by decide +kernel
set_option maxRecDepth 20000 in
theorem ggX5_letsOn_X5_isHalf : GoodIn wsX5_letsOn wsX5_isHalf := goodIn_r _ [4] (by decide +kernel) (by decide +kernel)
set_option maxRecDepth 20000 in
theorem gX5_letsOn_X5_isHalf : GoodIn wsX5_letsOn (va_wsS RX5 209 yX5_isHalf wsX5_isHalf) := goodIn_app (goodIn_of _ (by decide +kernel)) ggX5_letsOn_X5_isHalf
theorem dX5_letsOn_0 : decode cX5_letsOn 0 = .ok (.iload_n 0, 1) := by decide +kernel
theorem dX5_letsOn_1 : decode cX5_letsOn 1 = .ok (.ifCond .eq 16, 3) := by decide +kernel
theorem dX5_letsOn_4 : decode cX5_letsOn 4 = .ok (.iload_n 0, 1) := by decide +kernel
theorem dX5_letsOn_5 : decode cX5_letsOn 5 = .ok (.bipush 6, 2) := by decide +kernel
theorem dX5_letsOn_7 : decode cX5_letsOn 7 = .ok (.if_icmp .eq 10, 3) := by decide +kernel
theorem dX5_letsOn_10 : decode cX5_letsOn 10 = .ok (.iload_n 0, 1) := by decide +kernel
theorem dX5_letsOn_11 : decode cX5_letsOn 11 = .ok (.invokestatic 209, 3) := by decide +kernel
theorem dX5_letsOn_14 : decode cX5_letsOn 14 = .ok (.ifCond .eq 7, 3) := by decide +kernel
theorem dX5_letsOn_17 : decode cX5_letsOn 17 = .ok (.iconst 1, 1) := by decide +kernel
theorem dX5_letsOn_18 : decode cX5_letsOn 18 = .ok (.goto 4, 3) := by decide +kernel
theorem dX5_letsOn_21 : decode cX5_letsOn 21 = .ok (.iconst 0, 1) := by decide +kernel
theorem dX5_letsOn_22 : decode cX5_letsOn 22 = .ok (.ireturn, 1) := by decide +kernel
set_option maxRecDepth 20000 in
theorem ggX5_turnsBeam_X5_isHalf : GoodIn wsX5_turnsBeam wsX5_isHalf := goodIn_r _ [4] (by decide +kernel) (by decide +kernel)
set_option maxRecDepth 20000 in
theorem gX5_turnsBeam_X5_isHalf : GoodIn wsX5_turnsBeam (va_wsS RX5 209 yX5_isHalf wsX5_isHalf) := goodIn_app (goodIn_of _ (by decide +kernel)) ggX5_turnsBeam_X5_isHalf
theorem dX5_turnsBeam_0 : decode cX5_turnsBeam 0 = .ok (.iload_n 0, 1) := by decide +kernel
theorem dX5_turnsBeam_1 : decode cX5_turnsBeam 1 = .ok (.iconst 1, 1) := by decide +kernel
theorem dX5_turnsBeam_2 : decode cX5_turnsBeam 2 = .ok (.if_icmp .eq 15, 3) := by decide +kernel
theorem dX5_turnsBeam_5 : decode cX5_turnsBeam 5 = .ok (.iload_n 0, 1) := by decide +kernel
theorem dX5_turnsBeam_6 : decode cX5_turnsBeam 6 = .ok (.iconst 2, 1) := by decide +kernel
theorem dX5_turnsBeam_7 : decode cX5_turnsBeam 7 = .ok (.if_icmp .eq 10, 3) := by decide +kernel
theorem dX5_turnsBeam_10 : decode cX5_turnsBeam 10 = .ok (.iload_n 0, 1) := by decide +kernel
theorem dX5_turnsBeam_11 : decode cX5_turnsBeam 11 = .ok (.invokestatic 209, 3) := by decide +kernel
theorem dX5_turnsBeam_14 : decode cX5_turnsBeam 14 = .ok (.ifCond .eq 7, 3) := by decide +kernel
theorem dX5_turnsBeam_17 : decode cX5_turnsBeam 17 = .ok (.iconst 1, 1) := by decide +kernel
theorem dX5_turnsBeam_18 : decode cX5_turnsBeam 18 = .ok (.goto 4, 3) := by decide +kernel
theorem dX5_turnsBeam_21 : decode cX5_turnsBeam 21 = .ok (.iconst 0, 1) := by decide +kernel
theorem dX5_turnsBeam_22 : decode cX5_turnsBeam 22 = .ok (.ireturn, 1) := by decide +kernel
theorem dX5_turnedBy_0 : decode cX5_turnedBy 0 = .ok (.iload_n 0, 1) := by decide +kernel
theorem dX5_turnedBy_1 : decode cX5_turnedBy 1 = .ok (.iconst 1, 1) := by decide +kernel
theorem dX5_turnedBy_2 : decode cX5_turnedBy 2 = .ok (.if_icmp .eq 8, 3) := by decide +kernel
theorem dX5_turnedBy_5 : decode cX5_turnedBy 5 = .ok (.iload_n 0, 1) := by decide +kernel
theorem dX5_turnedBy_6 : decode cX5_turnedBy 6 = .ok (.iconst 3, 1) := by decide +kernel
theorem dX5_turnedBy_7 : decode cX5_turnedBy 7 = .ok (.if_icmp .ne 7, 3) := by decide +kernel
theorem dX5_turnedBy_10 : decode cX5_turnedBy 10 = .ok (.iconst 1, 1) := by decide +kernel
theorem dX5_turnedBy_11 : decode cX5_turnedBy 11 = .ok (.goto 4, 3) := by decide +kernel
theorem dX5_turnedBy_14 : decode cX5_turnedBy 14 = .ok (.iconst 0, 1) := by decide +kernel
theorem dX5_turnedBy_15 : decode cX5_turnedBy 15 = .ok (.istore_n 2, 1) := by decide +kernel
theorem dX5_turnedBy_16 : decode cX5_turnedBy 16 = .ok (.iload_n 2, 1) := by decide +kernel
theorem dX5_turnedBy_17 : decode cX5_turnedBy 17 = .ok (.ifCond .eq 9, 3) := by decide +kernel
theorem dX5_turnedBy_20 : decode cX5_turnedBy 20 = .ok (.iload_n 1, 1) := by decide +kernel
theorem dX5_turnedBy_21 : decode cX5_turnedBy 21 = .ok (.iconst 1, 1) := by decide +kernel
theorem dX5_turnedBy_22 : decode cX5_turnedBy 22 = .ok (.ixor, 1) := by decide +kernel
theorem dX5_turnedBy_23 : decode cX5_turnedBy 23 = .ok (.goto 6, 3) := by decide +kernel
theorem dX5_turnedBy_26 : decode cX5_turnedBy 26 = .ok (.iconst 3, 1) := by decide +kernel
theorem dX5_turnedBy_27 : decode cX5_turnedBy 27 = .ok (.iload_n 1, 1) := by decide +kernel
theorem dX5_turnedBy_28 : decode cX5_turnedBy 28 = .ok (.isub, 1) := by decide +kernel
theorem dX5_turnedBy_29 : decode cX5_turnedBy 29 = .ok (.ireturn, 1) := by decide +kernel
theorem dX6_init_0 : decode cX6_init 0 = .ok (.aload_n 0, 1) := by decide +kernel
theorem dX6_init_1 : decode cX6_init 1 = .ok (.invokespecial 1, 3) := by decide +kernel
theorem dX6_init_4 : decode cX6_init 4 = .ok (.aload_n 0, 1) := by decide +kernel
theorem dX6_init_5 : decode cX6_init 5 = .ok (.bipush 22, 2) := by decide +kernel
theorem dX6_init_7 : decode cX6_init 7 = .ok (.newarray .int, 2) := by decide +kernel
theorem dX6_init_9 : decode cX6_init 9 = .ok (.putfield 7, 3) := by decide +kernel
theorem dX6_init_12 : decode cX6_init 12 = .ok (.aload_n 0, 1) := by decide +kernel
theorem dX6_init_13 : decode cX6_init 13 = .ok (.bipush 22, 2) := by decide +kernel
theorem dX6_init_15 : decode cX6_init 15 = .ok (.newarray .int, 2) := by decide +kernel
theorem dX6_init_17 : decode cX6_init 17 = .ok (.putfield 13, 3) := by decide +kernel
theorem dX6_init_20 : decode cX6_init 20 = .ok (.aload_n 0, 1) := by decide +kernel
theorem dX6_init_21 : decode cX6_init 21 = .ok (.bipush 22, 2) := by decide +kernel
theorem dX6_init_23 : decode cX6_init 23 = .ok (.newarray .int, 2) := by decide +kernel
theorem dX6_init_25 : decode cX6_init 25 = .ok (.putfield 16, 3) := by decide +kernel
theorem dX6_init_28 : decode cX6_init 28 = .ok (.aload_n 0, 1) := by decide +kernel
theorem dX6_init_29 : decode cX6_init 29 = .ok (.bipush 88, 2) := by decide +kernel
theorem dX6_init_31 : decode cX6_init 31 = .ok (.newarray .int, 2) := by decide +kernel
theorem dX6_init_33 : decode cX6_init 33 = .ok (.putfield 19, 3) := by decide +kernel
theorem dX6_init_36 : decode cX6_init 36 = .ok (.aload_n 0, 1) := by decide +kernel
theorem dX6_init_37 : decode cX6_init 37 = .ok (.bipush 60, 2) := by decide +kernel
theorem dX6_init_39 : decode cX6_init 39 = .ok (.newarray .int, 2) := by decide +kernel
theorem dX6_init_41 : decode cX6_init 41 = .ok (.putfield 22, 3) := by decide +kernel
theorem dX6_init_44 : decode cX6_init 44 = .ok (.aload_n 0, 1) := by decide +kernel
theorem dX6_init_45 : decode cX6_init 45 = .ok (.bipush 20, 2) := by decide +kernel
theorem dX6_init_47 : decode cX6_init 47 = .ok (.newarray .int, 2) := by decide +kernel
theorem dX6_init_49 : decode cX6_init 49 = .ok (.putfield 25, 3) := by decide +kernel
theorem dX6_init_52 : decode cX6_init 52 = .ok (.aload_n 0, 1) := by decide +kernel
theorem dX6_init_53 : decode cX6_init 53 = .ok (.bipush 40, 2) := by decide +kernel
theorem dX6_init_55 : decode cX6_init 55 = .ok (.newarray .int, 2) := by decide +kernel
theorem dX6_init_57 : decode cX6_init 57 = .ok (.putfield 28, 3) := by decide +kernel
theorem dX6_init_60 : decode cX6_init 60 = .ok (.aload_n 0, 1) := by decide +kernel
theorem dX6_init_61 : decode cX6_init 61 = .ok (.bipush 20, 2) := by decide +kernel
theorem dX6_init_63 : decode cX6_init 63 = .ok (.newarray .boolean, 2) := by decide +kernel
theorem dX6_init_65 : decode cX6_init 65 = .ok (.putfield 31, 3) := by decide +kernel
theorem dX6_init_68 : decode cX6_init 68 = .ok (.aload_n 0, 1) := by decide +kernel
theorem dX6_init_69 : decode cX6_init 69 = .ok (.bipush 80, 2) := by decide +kernel
theorem dX6_init_71 : decode cX6_init 71 = .ok (.newarray .int, 2) := by decide +kernel
theorem dX6_init_73 : decode cX6_init 73 = .ok (.putfield 35, 3) := by decide +kernel
theorem dX6_init_76 : decode cX6_init 76 = .ok (.aload_n 0, 1) := by decide +kernel
theorem dX6_init_77 : decode cX6_init 77 = .ok (.sipush 420, 3) := by decide +kernel
theorem dX6_init_80 : decode cX6_init 80 = .ok (.newarray .long, 2) := by decide +kernel
theorem dX6_init_82 : decode cX6_init 82 = .ok (.putfield 38, 3) := by decide +kernel
theorem dX6_init_85 : decode cX6_init 85 = .ok (.aload_n 0, 1) := by decide +kernel
theorem dX6_init_86 : decode cX6_init 86 = .ok (.bipush 80, 2) := by decide +kernel
theorem dX6_init_88 : decode cX6_init 88 = .ok (.newarray .int, 2) := by decide +kernel
theorem dX6_init_90 : decode cX6_init 90 = .ok (.putfield 42, 3) := by decide +kernel
theorem dX6_init_93 : decode cX6_init 93 = .ok (.aload_n 0, 1) := by decide +kernel
theorem dX6_init_94 : decode cX6_init 94 = .ok (.bipush 80, 2) := by decide +kernel
theorem dX6_init_96 : decode cX6_init 96 = .ok (.newarray .int, 2) := by decide +kernel
theorem dX6_init_98 : decode cX6_init 98 = .ok (.putfield 45, 3) := by decide +kernel
theorem dX6_init_101 : decode cX6_init 101 = .ok (.aload_n 0, 1) := by decide +kernel
theorem dX6_init_102 : decode cX6_init 102 = .ok (.getfield 7, 3) := by decide +kernel
theorem dX6_init_105 : decode cX6_init 105 = .ok (.iconst 0, 1) := by decide +kernel
theorem dX6_init_106 : decode cX6_init 106 = .ok (.iconst 4, 1) := by decide +kernel
theorem dX6_init_107 : decode cX6_init 107 = .ok (.iastore, 1) := by decide +kernel
theorem dX6_init_108 : decode cX6_init 108 = .ok (.aload_n 0, 1) := by decide +kernel
theorem dX6_init_109 : decode cX6_init 109 = .ok (.getfield 7, 3) := by decide +kernel
theorem dX6_init_112 : decode cX6_init 112 = .ok (.iconst 1, 1) := by decide +kernel
theorem dX6_init_113 : decode cX6_init 113 = .ok (.iconst 3, 1) := by decide +kernel
theorem dX6_init_114 : decode cX6_init 114 = .ok (.iastore, 1) := by decide +kernel
theorem dX6_init_115 : decode cX6_init 115 = .ok (.aload_n 0, 1) := by decide +kernel
theorem dX6_init_116 : decode cX6_init 116 = .ok (.getfield 7, 3) := by decide +kernel
theorem dX6_init_119 : decode cX6_init 119 = .ok (.iconst 3, 1) := by decide +kernel
theorem dX6_init_120 : decode cX6_init 120 = .ok (.iconst 3, 1) := by decide +kernel
theorem dX6_init_121 : decode cX6_init 121 = .ok (.iastore, 1) := by decide +kernel
theorem dX6_init_122 : decode cX6_init 122 = .ok (.aload_n 0, 1) := by decide +kernel
theorem dX6_init_123 : decode cX6_init 123 = .ok (.getfield 7, 3) := by decide +kernel
theorem dX6_init_126 : decode cX6_init 126 = .ok (.iconst 4, 1) := by decide +kernel
theorem dX6_init_127 : decode cX6_init 127 = .ok (.iconst 1, 1) := by decide +kernel
theorem dX6_init_128 : decode cX6_init 128 = .ok (.iastore, 1) := by decide +kernel
theorem dX6_init_129 : decode cX6_init 129 = .ok (.aload_n 0, 1) := by decide +kernel
theorem dX6_init_130 : decode cX6_init 130 = .ok (.getfield 7, 3) := by decide +kernel
theorem dX6_init_133 : decode cX6_init 133 = .ok (.bipush 6, 2) := by decide +kernel
theorem dX6_init_135 : decode cX6_init 135 = .ok (.iconst 4, 1) := by decide +kernel
theorem dX6_init_136 : decode cX6_init 136 = .ok (.iastore, 1) := by decide +kernel
theorem dX6_init_137 : decode cX6_init 137 = .ok (.aload_n 0, 1) := by decide +kernel
theorem dX6_init_138 : decode cX6_init 138 = .ok (.getfield 7, 3) := by decide +kernel
theorem dX6_init_141 : decode cX6_init 141 = .ok (.bipush 8, 2) := by decide +kernel
theorem dX6_init_143 : decode cX6_init 143 = .ok (.bipush 7, 2) := by decide +kernel
theorem dX6_init_145 : decode cX6_init 145 = .ok (.iastore, 1) := by decide +kernel
theorem dX6_init_146 : decode cX6_init 146 = .ok (.aload_n 0, 1) := by decide +kernel
theorem dX6_init_147 : decode cX6_init 147 = .ok (.getfield 7, 3) := by decide +kernel
theorem dX6_init_150 : decode cX6_init 150 = .ok (.bipush 9, 2) := by decide +kernel
theorem dX6_init_152 : decode cX6_init 152 = .ok (.iconst 3, 1) := by decide +kernel
theorem dX6_init_153 : decode cX6_init 153 = .ok (.iastore, 1) := by decide +kernel
theorem dX6_init_154 : decode cX6_init 154 = .ok (.aload_n 0, 1) := by decide +kernel
theorem dX6_init_155 : decode cX6_init 155 = .ok (.getfield 7, 3) := by decide +kernel
theorem dX6_init_158 : decode cX6_init 158 = .ok (.bipush 10, 2) := by decide +kernel
theorem dX6_init_160 : decode cX6_init 160 = .ok (.iconst 2, 1) := by decide +kernel
theorem dX6_init_161 : decode cX6_init 161 = .ok (.iastore, 1) := by decide +kernel
theorem dX6_init_162 : decode cX6_init 162 = .ok (.aload_n 0, 1) := by decide +kernel
theorem dX6_init_163 : decode cX6_init 163 = .ok (.getfield 7, 3) := by decide +kernel
theorem dX6_init_166 : decode cX6_init 166 = .ok (.bipush 11, 2) := by decide +kernel
theorem dX6_init_168 : decode cX6_init 168 = .ok (.iconst 3, 1) := by decide +kernel
theorem dX6_init_169 : decode cX6_init 169 = .ok (.iastore, 1) := by decide +kernel
theorem dX6_init_170 : decode cX6_init 170 = .ok (.aload_n 0, 1) := by decide +kernel
theorem dX6_init_171 : decode cX6_init 171 = .ok (.getfield 7, 3) := by decide +kernel
theorem dX6_init_174 : decode cX6_init 174 = .ok (.bipush 13, 2) := by decide +kernel
theorem dX6_init_176 : decode cX6_init 176 = .ok (.iconst 2, 1) := by decide +kernel
theorem dX6_init_177 : decode cX6_init 177 = .ok (.iastore, 1) := by decide +kernel
theorem dX6_init_178 : decode cX6_init 178 = .ok (.return_, 1) := by decide +kernel
theorem dX6_in_0 : decode cX6_in 0 = .ok (.iload_n 0, 1) := by decide +kernel
theorem dX6_in_1 : decode cX6_in 1 = .ok (.iload_n 1, 1) := by decide +kernel
theorem dX6_in_2 : decode cX6_in 2 = .ok (.if_icmp .lt 12, 3) := by decide +kernel
theorem dX6_in_5 : decode cX6_in 5 = .ok (.iload_n 0, 1) := by decide +kernel
theorem dX6_in_6 : decode cX6_in 6 = .ok (.iload_n 2, 1) := by decide +kernel
theorem dX6_in_7 : decode cX6_in 7 = .ok (.if_icmp .gt 7, 3) := by decide +kernel
theorem dX6_in_10 : decode cX6_in 10 = .ok (.iconst 1, 1) := by decide +kernel
theorem dX6_in_11 : decode cX6_in 11 = .ok (.goto 4, 3) := by decide +kernel
theorem dX6_in_14 : decode cX6_in 14 = .ok (.iconst 0, 1) := by decide +kernel
theorem dX6_in_15 : decode cX6_in 15 = .ok (.ireturn, 1) := by decide +kernel
theorem dX6_copies_0 : decode cX6_copies 0 = .ok (.iconst 0, 1) := by decide +kernel
theorem dX6_copies_1 : decode cX6_copies 1 = .ok (.istore 4, 2) := by decide +kernel
theorem dX6_copies_3 : decode cX6_copies 3 = .ok (.iload 4, 2) := by decide +kernel
theorem dX6_copies_5 : decode cX6_copies 5 = .ok (.bipush 22, 2) := by decide +kernel
theorem dX6_copies_7 : decode cX6_copies 7 = .ok (.if_icmp .ge 21, 3) := by decide +kernel
theorem dX6_copies_10 : decode cX6_copies 10 = .ok (.aload_n 2, 1) := by decide +kernel
theorem dX6_copies_11 : decode cX6_copies 11 = .ok (.iload_n 3, 1) := by decide +kernel
theorem dX6_copies_12 : decode cX6_copies 12 = .ok (.iload 4, 2) := by decide +kernel
theorem dX6_copies_14 : decode cX6_copies 14 = .ok (.iadd, 1) := by decide +kernel
theorem dX6_copies_15 : decode cX6_copies 15 = .ok (.aload_n 0, 1) := by decide +kernel
theorem dX6_copies_16 : decode cX6_copies 16 = .ok (.iload_n 1, 1) := by decide +kernel
theorem dX6_copies_17 : decode cX6_copies 17 = .ok (.iload 4, 2) := by decide +kernel
theorem dX6_copies_19 : decode cX6_copies 19 = .ok (.iadd, 1) := by decide +kernel
theorem dX6_copies_20 : decode cX6_copies 20 = .ok (.iaload, 1) := by decide +kernel
theorem dX6_copies_21 : decode cX6_copies 21 = .ok (.iastore, 1) := by decide +kernel
theorem dX6_copies_22 : decode cX6_copies 22 = .ok (.iinc 4 1, 3) := by decide +kernel
theorem dX6_copies_25 : decode cX6_copies 25 = .ok (.goto (-22), 3) := by decide +kernel
theorem dX6_copies_28 : decode cX6_copies 28 = .ok (.return_, 1) := by decide +kernel
theorem dX6_cells_0 : decode cX6_cells 0 = .ok (.aload_n 0, 1) := by decide +kernel
theorem dX6_cells_1 : decode cX6_cells 1 = .ok (.iconst 0, 1) := by decide +kernel
theorem dX6_cells_2 : decode cX6_cells 2 = .ok (.iaload, 1) := by decide +kernel
theorem dX6_cells_3 : decode cX6_cells 3 = .ok (.aload_n 0, 1) := by decide +kernel
theorem dX6_cells_4 : decode cX6_cells 4 = .ok (.iconst 1, 1) := by decide +kernel
theorem dX6_cells_5 : decode cX6_cells 5 = .ok (.iaload, 1) := by decide +kernel
theorem dX6_cells_6 : decode cX6_cells 6 = .ok (.imul, 1) := by decide +kernel
theorem dX6_cells_7 : decode cX6_cells 7 = .ok (.ireturn, 1) := by decide +kernel
set_option maxRecDepth 20000 in
theorem ggX6_isHalf_X6_in : GoodIn wsX6_isHalf wsX6_in := goodIn_r _ [4] (by decide +kernel) (by decide +kernel)
set_option maxRecDepth 20000 in
theorem gX6_isHalf_X6_in : GoodIn wsX6_isHalf (va_wsS RX6 48 yX6_in wsX6_in) := goodIn_app (goodIn_of _ (by decide +kernel)) ggX6_isHalf_X6_in
theorem dX6_isHalf_0 : decode cX6_isHalf 0 = .ok (.iload_n 0, 1) := by decide +kernel
theorem dX6_isHalf_1 : decode cX6_isHalf 1 = .ok (.iconst 3, 1) := by decide +kernel
theorem dX6_isHalf_2 : decode cX6_isHalf 2 = .ok (.iconst 4, 1) := by decide +kernel
theorem dX6_isHalf_3 : decode cX6_isHalf 3 = .ok (.invokestatic 48, 3) := by decide +kernel
theorem dX6_isHalf_6 : decode cX6_isHalf 6 = .ok (.ireturn, 1) := by decide +kernel
set_option maxRecDepth 20000 in
theorem ggX6_isDoor_X6_in : GoodIn wsX6_isDoor wsX6_in := goodIn_r _ [4] (by decide +kernel) (by decide +kernel)
set_option maxRecDepth 20000 in
theorem gX6_isDoor_X6_in : GoodIn wsX6_isDoor (va_wsS RX6 48 yX6_in wsX6_in) := goodIn_app (goodIn_of _ (by decide +kernel)) ggX6_isDoor_X6_in
theorem dX6_isDoor_0 : decode cX6_isDoor 0 = .ok (.iload_n 0, 1) := by decide +kernel
theorem dX6_isDoor_1 : decode cX6_isDoor 1 = .ok (.bipush 6, 2) := by decide +kernel
theorem dX6_isDoor_3 : decode cX6_isDoor 3 = .ok (.bipush 7, 2) := by decide +kernel
theorem dX6_isDoor_5 : decode cX6_isDoor 5 = .ok (.invokestatic 48, 3) := by decide +kernel
theorem dX6_isDoor_8 : decode cX6_isDoor 8 = .ok (.ireturn, 1) := by decide +kernel
set_option maxRecDepth 20000 in
theorem ggX6_halves_X6_cells : GoodIn wsX6_halves wsX6_cells := goodIn_r _ [4] (by decide +kernel) (by decide +kernel)
set_option maxRecDepth 20000 in
theorem gX6_halves_X6_cells : GoodIn wsX6_halves (va_wsS RX6 52 yX6_cells wsX6_cells) := goodIn_app (goodIn_of _ (by decide +kernel)) ggX6_halves_X6_cells
set_option maxRecDepth 20000 in
theorem ggX6_halves_X6_isHalf : GoodIn wsX6_halves wsX6_isHalf := goodIn_r _ [7, 8, 9, 3, 10] (by decide +kernel) (by decide +kernel)
set_option maxRecDepth 20000 in
theorem gX6_halves_X6_isHalf : GoodIn wsX6_halves (va_wsS RX6 56 yX6_isHalf wsX6_isHalf) := goodIn_app (goodIn_of _ (by decide +kernel)) ggX6_halves_X6_isHalf
theorem dX6_halves_0 : decode cX6_halves 0 = .ok (.iconst 0, 1) := by decide +kernel
theorem dX6_halves_1 : decode cX6_halves 1 = .ok (.istore_n 1, 1) := by decide +kernel
theorem dX6_halves_2 : decode cX6_halves 2 = .ok (.iconst 0, 1) := by decide +kernel
theorem dX6_halves_3 : decode cX6_halves 3 = .ok (.istore_n 2, 1) := by decide +kernel
theorem dX6_halves_4 : decode cX6_halves 4 = .ok (.iload_n 2, 1) := by decide +kernel
theorem dX6_halves_5 : decode cX6_halves 5 = .ok (.aload_n 0, 1) := by decide +kernel
theorem dX6_halves_6 : decode cX6_halves 6 = .ok (.invokestatic 52, 3) := by decide +kernel
theorem dX6_halves_9 : decode cX6_halves 9 = .ok (.if_icmp .ge 28, 3) := by decide +kernel
theorem dX6_halves_12 : decode cX6_halves 12 = .ok (.iload_n 1, 1) := by decide +kernel
theorem dX6_halves_13 : decode cX6_halves 13 = .ok (.aload_n 0, 1) := by decide +kernel
theorem dX6_halves_14 : decode cX6_halves 14 = .ok (.iconst 2, 1) := by decide +kernel
theorem dX6_halves_15 : decode cX6_halves 15 = .ok (.iload_n 2, 1) := by decide +kernel
theorem dX6_halves_16 : decode cX6_halves 16 = .ok (.iadd, 1) := by decide +kernel
theorem dX6_halves_17 : decode cX6_halves 17 = .ok (.iaload, 1) := by decide +kernel
theorem dX6_halves_18 : decode cX6_halves 18 = .ok (.invokestatic 56, 3) := by decide +kernel
theorem dX6_halves_21 : decode cX6_halves 21 = .ok (.ifCond .eq 7, 3) := by decide +kernel
theorem dX6_halves_24 : decode cX6_halves 24 = .ok (.iconst 1, 1) := by decide +kernel
theorem dX6_halves_25 : decode cX6_halves 25 = .ok (.goto 4, 3) := by decide +kernel
theorem dX6_halves_28 : decode cX6_halves 28 = .ok (.iconst 0, 1) := by decide +kernel
theorem dX6_halves_29 : decode cX6_halves 29 = .ok (.iadd, 1) := by decide +kernel
theorem dX6_halves_30 : decode cX6_halves 30 = .ok (.istore_n 1, 1) := by decide +kernel
theorem dX6_halves_31 : decode cX6_halves 31 = .ok (.iinc 2 1, 3) := by decide +kernel
theorem dX6_halves_34 : decode cX6_halves 34 = .ok (.goto (-30), 3) := by decide +kernel
theorem dX6_halves_37 : decode cX6_halves 37 = .ok (.iload_n 1, 1) := by decide +kernel
theorem dX6_halves_38 : decode cX6_halves 38 = .ok (.ireturn, 1) := by decide +kernel
set_option maxRecDepth 20000 in
theorem ggX6_doors_X6_cells : GoodIn wsX6_doors wsX6_cells := goodIn_r _ [4] (by decide +kernel) (by decide +kernel)
set_option maxRecDepth 20000 in
theorem gX6_doors_X6_cells : GoodIn wsX6_doors (va_wsS RX6 52 yX6_cells wsX6_cells) := goodIn_app (goodIn_of _ (by decide +kernel)) ggX6_doors_X6_cells
set_option maxRecDepth 20000 in
theorem ggX6_doors_X6_isDoor : GoodIn wsX6_doors wsX6_isDoor := goodIn_r _ [7, 8, 9, 3, 10] (by decide +kernel) (by decide +kernel)
set_option maxRecDepth 20000 in
theorem gX6_doors_X6_isDoor : GoodIn wsX6_doors (va_wsS RX6 60 yX6_isDoor wsX6_isDoor) := goodIn_app (goodIn_of _ (by decide +kernel)) ggX6_doors_X6_isDoor
theorem dX6_doors_0 : decode cX6_doors 0 = .ok (.iconst 0, 1) := by decide +kernel
theorem dX6_doors_1 : decode cX6_doors 1 = .ok (.istore_n 1, 1) := by decide +kernel
theorem dX6_doors_2 : decode cX6_doors 2 = .ok (.iconst 0, 1) := by decide +kernel
theorem dX6_doors_3 : decode cX6_doors 3 = .ok (.istore_n 2, 1) := by decide +kernel
theorem dX6_doors_4 : decode cX6_doors 4 = .ok (.iload_n 2, 1) := by decide +kernel
theorem dX6_doors_5 : decode cX6_doors 5 = .ok (.aload_n 0, 1) := by decide +kernel
theorem dX6_doors_6 : decode cX6_doors 6 = .ok (.invokestatic 52, 3) := by decide +kernel
theorem dX6_doors_9 : decode cX6_doors 9 = .ok (.if_icmp .ge 28, 3) := by decide +kernel
theorem dX6_doors_12 : decode cX6_doors 12 = .ok (.iload_n 1, 1) := by decide +kernel
theorem dX6_doors_13 : decode cX6_doors 13 = .ok (.aload_n 0, 1) := by decide +kernel
theorem dX6_doors_14 : decode cX6_doors 14 = .ok (.iconst 2, 1) := by decide +kernel
theorem dX6_doors_15 : decode cX6_doors 15 = .ok (.iload_n 2, 1) := by decide +kernel
theorem dX6_doors_16 : decode cX6_doors 16 = .ok (.iadd, 1) := by decide +kernel
theorem dX6_doors_17 : decode cX6_doors 17 = .ok (.iaload, 1) := by decide +kernel
theorem dX6_doors_18 : decode cX6_doors 18 = .ok (.invokestatic 60, 3) := by decide +kernel
theorem dX6_doors_21 : decode cX6_doors 21 = .ok (.ifCond .eq 7, 3) := by decide +kernel
theorem dX6_doors_24 : decode cX6_doors 24 = .ok (.iconst 1, 1) := by decide +kernel
theorem dX6_doors_25 : decode cX6_doors 25 = .ok (.goto 4, 3) := by decide +kernel
theorem dX6_doors_28 : decode cX6_doors 28 = .ok (.iconst 0, 1) := by decide +kernel
theorem dX6_doors_29 : decode cX6_doors 29 = .ok (.iadd, 1) := by decide +kernel
theorem dX6_doors_30 : decode cX6_doors 30 = .ok (.istore_n 1, 1) := by decide +kernel
theorem dX6_doors_31 : decode cX6_doors 31 = .ok (.iinc 2 1, 3) := by decide +kernel
theorem dX6_doors_34 : decode cX6_doors 34 = .ok (.goto (-30), 3) := by decide +kernel
theorem dX6_doors_37 : decode cX6_doors 37 = .ok (.iload_n 1, 1) := by decide +kernel
theorem dX6_doors_38 : decode cX6_doors 38 = .ok (.ireturn, 1) := by decide +kernel
theorem dX6_kindOf_0 : decode cX6_kindOf 0 = .ok (.iload_n 0, 1) := by decide +kernel
theorem dX6_kindOf_1 : decode cX6_kindOf 1 = .ok (.lookupswitch 93 #[(35, 85), (46, 75), (47, 77), (92, 79), (98, 83), (102, 81), (111, 87), (120, 90)], 75) := by decide +kernel
theorem dX6_kindOf_76 : decode cX6_kindOf 76 = .ok (.iconst 0, 1) := by decide +kernel
theorem dX6_kindOf_77 : decode cX6_kindOf 77 = .ok (.ireturn, 1) := by decide +kernel
theorem dX6_kindOf_78 : decode cX6_kindOf 78 = .ok (.iconst 1, 1) := by decide +kernel
theorem dX6_kindOf_79 : decode cX6_kindOf 79 = .ok (.ireturn, 1) := by decide +kernel
theorem dX6_kindOf_80 : decode cX6_kindOf 80 = .ok (.iconst 2, 1) := by decide +kernel
theorem dX6_kindOf_81 : decode cX6_kindOf 81 = .ok (.ireturn, 1) := by decide +kernel
theorem dX6_kindOf_82 : decode cX6_kindOf 82 = .ok (.iconst 3, 1) := by decide +kernel
theorem dX6_kindOf_83 : decode cX6_kindOf 83 = .ok (.ireturn, 1) := by decide +kernel
theorem dX6_kindOf_84 : decode cX6_kindOf 84 = .ok (.iconst 4, 1) := by decide +kernel
theorem dX6_kindOf_85 : decode cX6_kindOf 85 = .ok (.ireturn, 1) := by decide +kernel
theorem dX6_kindOf_86 : decode cX6_kindOf 86 = .ok (.iconst 5, 1) := by decide +kernel
theorem dX6_kindOf_87 : decode cX6_kindOf 87 = .ok (.ireturn, 1) := by decide +kernel
theorem dX6_kindOf_88 : decode cX6_kindOf 88 = .ok (.bipush 6, 2) := by decide +kernel
theorem dX6_kindOf_90 : decode cX6_kindOf 90 = .ok (.ireturn, 1) := by decide +kernel
theorem dX6_kindOf_91 : decode cX6_kindOf 91 = .ok (.bipush 7, 2) := by decide +kernel
theorem dX6_kindOf_93 : decode cX6_kindOf 93 = .ok (.ireturn, 1) := by decide +kernel
theorem dX6_kindOf_94 : decode cX6_kindOf 94 = .ok (.bipush (-4), 2) := by decide +kernel
theorem dX6_kindOf_96 : decode cX6_kindOf 96 = .ok (.ireturn, 1) := by decide +kernel
set_option maxRecDepth 20000 in
theorem ggX6_takesRow_X6_kindOf : GoodIn wsX6_takesRow wsX6_kindOf := goodIn_r _ [8] (by decide +kernel) (by decide +kernel)
set_option maxRecDepth 20000 in
theorem gX6_takesRow_X6_kindOf : GoodIn wsX6_takesRow (va_wsS RX6 70 yX6_kindOf wsX6_kindOf) := goodIn_app (goodIn_of _ (by decide +kernel)) ggX6_takesRow_X6_kindOf
set_option maxRecDepth 20000 in
theorem ggX6_takesRow_X6_halves : GoodIn wsX6_takesRow wsX6_halves := goodIn_r _ [11, 12, 13, 7, 14, 15, 16, 17, 18, 19, 20] (by decide +kernel) (by decide +kernel)
set_option maxRecDepth 20000 in
theorem gX6_takesRow_X6_halves : GoodIn wsX6_takesRow (va_wsS RX6 74 yX6_halves wsX6_halves) := goodIn_app (goodIn_of _ (by decide +kernel)) ggX6_takesRow_X6_halves
set_option maxRecDepth 20000 in
theorem ggX6_takesRow_X6_doors : GoodIn wsX6_takesRow wsX6_doors := goodIn_r _ [23, 12, 13, 7, 14, 24, 25, 26, 18, 19, 20] (by decide +kernel) (by decide +kernel)
set_option maxRecDepth 20000 in
theorem gX6_takesRow_X6_doors : GoodIn wsX6_takesRow (va_wsS RX6 77 yX6_doors wsX6_doors) := goodIn_app (goodIn_of _ (by decide +kernel)) ggX6_takesRow_X6_doors
theorem dX6_takesRow_0 : decode cX6_takesRow 0 = .ok (.aload_n 0, 1) := by decide +kernel
theorem dX6_takesRow_1 : decode cX6_takesRow 1 = .ok (.getfield 22, 3) := by decide +kernel
theorem dX6_takesRow_4 : decode cX6_takesRow 4 = .ok (.aload_n 0, 1) := by decide +kernel
theorem dX6_takesRow_5 : decode cX6_takesRow 5 = .ok (.getfield 63, 3) := by decide +kernel
theorem dX6_takesRow_8 : decode cX6_takesRow 8 = .ok (.iaload, 1) := by decide +kernel
theorem dX6_takesRow_9 : decode cX6_takesRow 9 = .ok (.bipush 114, 2) := by decide +kernel
theorem dX6_takesRow_11 : decode cX6_takesRow 11 = .ok (.if_icmp .ne 13, 3) := by decide +kernel
theorem dX6_takesRow_14 : decode cX6_takesRow 14 = .ok (.aload_n 0, 1) := by decide +kernel
theorem dX6_takesRow_15 : decode cX6_takesRow 15 = .ok (.getfield 13, 3) := by decide +kernel
theorem dX6_takesRow_18 : decode cX6_takesRow 18 = .ok (.iconst 1, 1) := by decide +kernel
theorem dX6_takesRow_19 : decode cX6_takesRow 19 = .ok (.iaload, 1) := by decide +kernel
theorem dX6_takesRow_20 : decode cX6_takesRow 20 = .ok (.iconst 4, 1) := by decide +kernel
theorem dX6_takesRow_21 : decode cX6_takesRow 21 = .ok (.if_icmp .ne 5, 3) := by decide +kernel
theorem dX6_takesRow_24 : decode cX6_takesRow 24 = .ok (.iconst 0, 1) := by decide +kernel
theorem dX6_takesRow_25 : decode cX6_takesRow 25 = .ok (.ireturn, 1) := by decide +kernel
theorem dX6_takesRow_26 : decode cX6_takesRow 26 = .ok (.aload_n 0, 1) := by decide +kernel
theorem dX6_takesRow_27 : decode cX6_takesRow 27 = .ok (.dup, 1) := by decide +kernel
theorem dX6_takesRow_28 : decode cX6_takesRow 28 = .ok (.getfield 63, 3) := by decide +kernel
theorem dX6_takesRow_31 : decode cX6_takesRow 31 = .ok (.iconst 1, 1) := by decide +kernel
theorem dX6_takesRow_32 : decode cX6_takesRow 32 = .ok (.iadd, 1) := by decide +kernel
theorem dX6_takesRow_33 : decode cX6_takesRow 33 = .ok (.putfield 63, 3) := by decide +kernel
theorem dX6_takesRow_36 : decode cX6_takesRow 36 = .ok (.iconst 0, 1) := by decide +kernel
theorem dX6_takesRow_37 : decode cX6_takesRow 37 = .ok (.istore_n 1, 1) := by decide +kernel
theorem dX6_takesRow_38 : decode cX6_takesRow 38 = .ok (.aload_n 0, 1) := by decide +kernel
theorem dX6_takesRow_39 : decode cX6_takesRow 39 = .ok (.getfield 13, 3) := by decide +kernel
theorem dX6_takesRow_42 : decode cX6_takesRow 42 = .ok (.iconst 1, 1) := by decide +kernel
theorem dX6_takesRow_43 : decode cX6_takesRow 43 = .ok (.iaload, 1) := by decide +kernel
theorem dX6_takesRow_44 : decode cX6_takesRow 44 = .ok (.ifCond .ne 7, 3) := by decide +kernel
theorem dX6_takesRow_47 : decode cX6_takesRow 47 = .ok (.iconst 5, 1) := by decide +kernel
theorem dX6_takesRow_48 : decode cX6_takesRow 48 = .ok (.goto 9, 3) := by decide +kernel
theorem dX6_takesRow_51 : decode cX6_takesRow 51 = .ok (.aload_n 0, 1) := by decide +kernel
theorem dX6_takesRow_52 : decode cX6_takesRow 52 = .ok (.getfield 13, 3) := by decide +kernel
theorem dX6_takesRow_55 : decode cX6_takesRow 55 = .ok (.iconst 0, 1) := by decide +kernel
theorem dX6_takesRow_56 : decode cX6_takesRow 56 = .ok (.iaload, 1) := by decide +kernel
theorem dX6_takesRow_57 : decode cX6_takesRow 57 = .ok (.istore_n 2, 1) := by decide +kernel
theorem dX6_takesRow_58 : decode cX6_takesRow 58 = .ok (.iconst 2, 1) := by decide +kernel
theorem dX6_takesRow_59 : decode cX6_takesRow 59 = .ok (.aload_n 0, 1) := by decide +kernel
theorem dX6_takesRow_60 : decode cX6_takesRow 60 = .ok (.getfield 13, 3) := by decide +kernel
theorem dX6_takesRow_63 : decode cX6_takesRow 63 = .ok (.iconst 0, 1) := by decide +kernel
theorem dX6_takesRow_64 : decode cX6_takesRow 64 = .ok (.iaload, 1) := by decide +kernel
theorem dX6_takesRow_65 : decode cX6_takesRow 65 = .ok (.aload_n 0, 1) := by decide +kernel
theorem dX6_takesRow_66 : decode cX6_takesRow 66 = .ok (.getfield 13, 3) := by decide +kernel
theorem dX6_takesRow_69 : decode cX6_takesRow 69 = .ok (.iconst 1, 1) := by decide +kernel
theorem dX6_takesRow_70 : decode cX6_takesRow 70 = .ok (.iaload, 1) := by decide +kernel
theorem dX6_takesRow_71 : decode cX6_takesRow 71 = .ok (.imul, 1) := by decide +kernel
theorem dX6_takesRow_72 : decode cX6_takesRow 72 = .ok (.iadd, 1) := by decide +kernel
theorem dX6_takesRow_73 : decode cX6_takesRow 73 = .ok (.istore_n 3, 1) := by decide +kernel
theorem dX6_takesRow_74 : decode cX6_takesRow 74 = .ok (.aload_n 0, 1) := by decide +kernel
theorem dX6_takesRow_75 : decode cX6_takesRow 75 = .ok (.getfield 63, 3) := by decide +kernel
theorem dX6_takesRow_78 : decode cX6_takesRow 78 = .ok (.aload_n 0, 1) := by decide +kernel
theorem dX6_takesRow_79 : decode cX6_takesRow 79 = .ok (.getfield 67, 3) := by decide +kernel
theorem dX6_takesRow_82 : decode cX6_takesRow 82 = .ok (.if_icmp .ge 61, 3) := by decide +kernel
theorem dX6_takesRow_85 : decode cX6_takesRow 85 = .ok (.iload_n 1, 1) := by decide +kernel
theorem dX6_takesRow_86 : decode cX6_takesRow 86 = .ok (.iload_n 2, 1) := by decide +kernel
theorem dX6_takesRow_87 : decode cX6_takesRow 87 = .ok (.if_icmp .ge 56, 3) := by decide +kernel
theorem dX6_takesRow_90 : decode cX6_takesRow 90 = .ok (.aload_n 0, 1) := by decide +kernel
theorem dX6_takesRow_91 : decode cX6_takesRow 91 = .ok (.getfield 22, 3) := by decide +kernel
theorem dX6_takesRow_94 : decode cX6_takesRow 94 = .ok (.aload_n 0, 1) := by decide +kernel
theorem dX6_takesRow_95 : decode cX6_takesRow 95 = .ok (.getfield 63, 3) := by decide +kernel
theorem dX6_takesRow_98 : decode cX6_takesRow 98 = .ok (.iaload, 1) := by decide +kernel
theorem dX6_takesRow_99 : decode cX6_takesRow 99 = .ok (.invokestatic 70, 3) := by decide +kernel
theorem dX6_takesRow_102 : decode cX6_takesRow 102 = .ok (.bipush (-4), 2) := by decide +kernel
theorem dX6_takesRow_104 : decode cX6_takesRow 104 = .ok (.if_icmp .eq 39, 3) := by decide +kernel
theorem dX6_takesRow_107 : decode cX6_takesRow 107 = .ok (.aload_n 0, 1) := by decide +kernel
theorem dX6_takesRow_108 : decode cX6_takesRow 108 = .ok (.getfield 13, 3) := by decide +kernel
theorem dX6_takesRow_111 : decode cX6_takesRow 111 = .ok (.iload_n 3, 1) := by decide +kernel
theorem dX6_takesRow_112 : decode cX6_takesRow 112 = .ok (.iload_n 1, 1) := by decide +kernel
theorem dX6_takesRow_113 : decode cX6_takesRow 113 = .ok (.iadd, 1) := by decide +kernel
theorem dX6_takesRow_114 : decode cX6_takesRow 114 = .ok (.aload_n 0, 1) := by decide +kernel
theorem dX6_takesRow_115 : decode cX6_takesRow 115 = .ok (.getfield 22, 3) := by decide +kernel
theorem dX6_takesRow_118 : decode cX6_takesRow 118 = .ok (.aload_n 0, 1) := by decide +kernel
theorem dX6_takesRow_119 : decode cX6_takesRow 119 = .ok (.getfield 63, 3) := by decide +kernel
theorem dX6_takesRow_122 : decode cX6_takesRow 122 = .ok (.iaload, 1) := by decide +kernel
theorem dX6_takesRow_123 : decode cX6_takesRow 123 = .ok (.invokestatic 70, 3) := by decide +kernel
theorem dX6_takesRow_126 : decode cX6_takesRow 126 = .ok (.iastore, 1) := by decide +kernel
theorem dX6_takesRow_127 : decode cX6_takesRow 127 = .ok (.iinc 1 1, 3) := by decide +kernel
theorem dX6_takesRow_130 : decode cX6_takesRow 130 = .ok (.aload_n 0, 1) := by decide +kernel
theorem dX6_takesRow_131 : decode cX6_takesRow 131 = .ok (.dup, 1) := by decide +kernel
theorem dX6_takesRow_132 : decode cX6_takesRow 132 = .ok (.getfield 63, 3) := by decide +kernel
theorem dX6_takesRow_135 : decode cX6_takesRow 135 = .ok (.iconst 1, 1) := by decide +kernel
theorem dX6_takesRow_136 : decode cX6_takesRow 136 = .ok (.iadd, 1) := by decide +kernel
theorem dX6_takesRow_137 : decode cX6_takesRow 137 = .ok (.putfield 63, 3) := by decide +kernel
theorem dX6_takesRow_140 : decode cX6_takesRow 140 = .ok (.goto (-66), 3) := by decide +kernel
theorem dX6_takesRow_143 : decode cX6_takesRow 143 = .ok (.iload_n 1, 1) := by decide +kernel
theorem dX6_takesRow_144 : decode cX6_takesRow 144 = .ok (.iconst 2, 1) := by decide +kernel
theorem dX6_takesRow_145 : decode cX6_takesRow 145 = .ok (.if_icmp .lt 42, 3) := by decide +kernel
theorem dX6_takesRow_148 : decode cX6_takesRow 148 = .ok (.aload_n 0, 1) := by decide +kernel
theorem dX6_takesRow_149 : decode cX6_takesRow 149 = .ok (.getfield 13, 3) := by decide +kernel
theorem dX6_takesRow_152 : decode cX6_takesRow 152 = .ok (.iconst 1, 1) := by decide +kernel
theorem dX6_takesRow_153 : decode cX6_takesRow 153 = .ok (.iaload, 1) := by decide +kernel
theorem dX6_takesRow_154 : decode cX6_takesRow 154 = .ok (.ifCond .le 8, 3) := by decide +kernel
theorem dX6_takesRow_157 : decode cX6_takesRow 157 = .ok (.iload_n 1, 1) := by decide +kernel
theorem dX6_takesRow_158 : decode cX6_takesRow 158 = .ok (.iload_n 2, 1) := by decide +kernel
theorem dX6_takesRow_159 : decode cX6_takesRow 159 = .ok (.if_icmp .lt 28, 3) := by decide +kernel
theorem dX6_takesRow_162 : decode cX6_takesRow 162 = .ok (.aload_n 0, 1) := by decide +kernel
theorem dX6_takesRow_163 : decode cX6_takesRow 163 = .ok (.getfield 63, 3) := by decide +kernel
theorem dX6_takesRow_166 : decode cX6_takesRow 166 = .ok (.aload_n 0, 1) := by decide +kernel
theorem dX6_takesRow_167 : decode cX6_takesRow 167 = .ok (.getfield 67, 3) := by decide +kernel
theorem dX6_takesRow_170 : decode cX6_takesRow 170 = .ok (.if_icmp .eq 17, 3) := by decide +kernel
theorem dX6_takesRow_173 : decode cX6_takesRow 173 = .ok (.aload_n 0, 1) := by decide +kernel
theorem dX6_takesRow_174 : decode cX6_takesRow 174 = .ok (.getfield 22, 3) := by decide +kernel
theorem dX6_takesRow_177 : decode cX6_takesRow 177 = .ok (.aload_n 0, 1) := by decide +kernel
theorem dX6_takesRow_178 : decode cX6_takesRow 178 = .ok (.getfield 63, 3) := by decide +kernel
theorem dX6_takesRow_181 : decode cX6_takesRow 181 = .ok (.iaload, 1) := by decide +kernel
theorem dX6_takesRow_182 : decode cX6_takesRow 182 = .ok (.bipush 59, 2) := by decide +kernel
theorem dX6_takesRow_184 : decode cX6_takesRow 184 = .ok (.if_icmp .eq 5, 3) := by decide +kernel
theorem dX6_takesRow_187 : decode cX6_takesRow 187 = .ok (.iconst 0, 1) := by decide +kernel
theorem dX6_takesRow_188 : decode cX6_takesRow 188 = .ok (.ireturn, 1) := by decide +kernel
theorem dX6_takesRow_189 : decode cX6_takesRow 189 = .ok (.aload_n 0, 1) := by decide +kernel
theorem dX6_takesRow_190 : decode cX6_takesRow 190 = .ok (.dup, 1) := by decide +kernel
theorem dX6_takesRow_191 : decode cX6_takesRow 191 = .ok (.getfield 63, 3) := by decide +kernel
theorem dX6_takesRow_194 : decode cX6_takesRow 194 = .ok (.iconst 1, 1) := by decide +kernel
theorem dX6_takesRow_195 : decode cX6_takesRow 195 = .ok (.iadd, 1) := by decide +kernel
theorem dX6_takesRow_196 : decode cX6_takesRow 196 = .ok (.putfield 63, 3) := by decide +kernel
theorem dX6_takesRow_199 : decode cX6_takesRow 199 = .ok (.aload_n 0, 1) := by decide +kernel
theorem dX6_takesRow_200 : decode cX6_takesRow 200 = .ok (.getfield 13, 3) := by decide +kernel
theorem dX6_takesRow_203 : decode cX6_takesRow 203 = .ok (.iconst 0, 1) := by decide +kernel
theorem dX6_takesRow_204 : decode cX6_takesRow 204 = .ok (.iload_n 1, 1) := by decide +kernel
theorem dX6_takesRow_205 : decode cX6_takesRow 205 = .ok (.iastore, 1) := by decide +kernel
theorem dX6_takesRow_206 : decode cX6_takesRow 206 = .ok (.aload_n 0, 1) := by decide +kernel
theorem dX6_takesRow_207 : decode cX6_takesRow 207 = .ok (.getfield 13, 3) := by decide +kernel
theorem dX6_takesRow_210 : decode cX6_takesRow 210 = .ok (.iconst 1, 1) := by decide +kernel
theorem dX6_takesRow_211 : decode cX6_takesRow 211 = .ok (.dup2, 1) := by decide +kernel
theorem dX6_takesRow_212 : decode cX6_takesRow 212 = .ok (.iaload, 1) := by decide +kernel
theorem dX6_takesRow_213 : decode cX6_takesRow 213 = .ok (.iconst 1, 1) := by decide +kernel
theorem dX6_takesRow_214 : decode cX6_takesRow 214 = .ok (.iadd, 1) := by decide +kernel
theorem dX6_takesRow_215 : decode cX6_takesRow 215 = .ok (.iastore, 1) := by decide +kernel
theorem dX6_takesRow_216 : decode cX6_takesRow 216 = .ok (.aload_n 0, 1) := by decide +kernel
theorem dX6_takesRow_217 : decode cX6_takesRow 217 = .ok (.getfield 13, 3) := by decide +kernel
theorem dX6_takesRow_220 : decode cX6_takesRow 220 = .ok (.invokestatic 74, 3) := by decide +kernel
theorem dX6_takesRow_223 : decode cX6_takesRow 223 = .ok (.iconst 5, 1) := by decide +kernel
theorem dX6_takesRow_224 : decode cX6_takesRow 224 = .ok (.if_icmp .gt 18, 3) := by decide +kernel
theorem dX6_takesRow_227 : decode cX6_takesRow 227 = .ok (.aload_n 0, 1) := by decide +kernel
theorem dX6_takesRow_228 : decode cX6_takesRow 228 = .ok (.getfield 13, 3) := by decide +kernel
theorem dX6_takesRow_231 : decode cX6_takesRow 231 = .ok (.invokestatic 77, 3) := by decide +kernel
theorem dX6_takesRow_234 : decode cX6_takesRow 234 = .ok (.iconst 4, 1) := by decide +kernel
theorem dX6_takesRow_235 : decode cX6_takesRow 235 = .ok (.if_icmp .gt 7, 3) := by decide +kernel
theorem dX6_takesRow_238 : decode cX6_takesRow 238 = .ok (.iconst 1, 1) := by decide +kernel
theorem dX6_takesRow_239 : decode cX6_takesRow 239 = .ok (.goto 4, 3) := by decide +kernel
theorem dX6_takesRow_242 : decode cX6_takesRow 242 = .ok (.iconst 0, 1) := by decide +kernel
theorem dX6_takesRow_243 : decode cX6_takesRow 243 = .ok (.ireturn, 1) := by decide +kernel
set_option maxRecDepth 20000 in
theorem ggX6_reads_X6_takesRow : GoodIn wsX6_reads wsX6_takesRow := goodIn_r _ [8, 9, 2, 1, 3, 10, 11, 7, 12, 13, 14, 15, 16, 17, 18, 19, 20, 21, 22, 23, 24, 25, 26, 27, 28, 29, 30, 31, 32, 33, 34, 35, 36, 37, 38, 39, 40, 41, 42, 43, 44, 45, 46, 47, 48, 49] (by decide +kernel) (by decide +kernel)
set_option maxRecDepth 20000 in
theorem gX6_reads_X6_takesRow : GoodIn wsX6_reads (wsV RX6 80 RX6 yX6_takesRow wsX6_takesRow) := goodIn_app (goodIn_of _ (by decide +kernel)) ggX6_reads_X6_takesRow
theorem dX6_reads_0 : decode cX6_reads 0 = .ok (.iconst 0, 1) := by decide +kernel
theorem dX6_reads_1 : decode cX6_reads 1 = .ok (.istore_n 1, 1) := by decide +kernel
theorem dX6_reads_2 : decode cX6_reads 2 = .ok (.iload_n 1, 1) := by decide +kernel
theorem dX6_reads_3 : decode cX6_reads 3 = .ok (.bipush 22, 2) := by decide +kernel
theorem dX6_reads_5 : decode cX6_reads 5 = .ok (.if_icmp .ge 16, 3) := by decide +kernel
theorem dX6_reads_8 : decode cX6_reads 8 = .ok (.aload_n 0, 1) := by decide +kernel
theorem dX6_reads_9 : decode cX6_reads 9 = .ok (.getfield 13, 3) := by decide +kernel
theorem dX6_reads_12 : decode cX6_reads 12 = .ok (.iload_n 1, 1) := by decide +kernel
theorem dX6_reads_13 : decode cX6_reads 13 = .ok (.iconst 0, 1) := by decide +kernel
theorem dX6_reads_14 : decode cX6_reads 14 = .ok (.iastore, 1) := by decide +kernel
theorem dX6_reads_15 : decode cX6_reads 15 = .ok (.iinc 1 1, 3) := by decide +kernel
theorem dX6_reads_18 : decode cX6_reads 18 = .ok (.goto (-16), 3) := by decide +kernel
theorem dX6_reads_21 : decode cX6_reads 21 = .ok (.aload_n 0, 1) := by decide +kernel
theorem dX6_reads_22 : decode cX6_reads 22 = .ok (.iconst 0, 1) := by decide +kernel
theorem dX6_reads_23 : decode cX6_reads 23 = .ok (.putfield 63, 3) := by decide +kernel
theorem dX6_reads_26 : decode cX6_reads 26 = .ok (.aload_n 0, 1) := by decide +kernel
theorem dX6_reads_27 : decode cX6_reads 27 = .ok (.getfield 63, 3) := by decide +kernel
theorem dX6_reads_30 : decode cX6_reads 30 = .ok (.aload_n 0, 1) := by decide +kernel
theorem dX6_reads_31 : decode cX6_reads 31 = .ok (.getfield 67, 3) := by decide +kernel
theorem dX6_reads_34 : decode cX6_reads 34 = .ok (.if_icmp .ge 20, 3) := by decide +kernel
theorem dX6_reads_37 : decode cX6_reads 37 = .ok (.aload_n 0, 1) := by decide +kernel
theorem dX6_reads_38 : decode cX6_reads 38 = .ok (.getfield 63, 3) := by decide +kernel
theorem dX6_reads_41 : decode cX6_reads 41 = .ok (.istore_n 1, 1) := by decide +kernel
theorem dX6_reads_42 : decode cX6_reads 42 = .ok (.aload_n 0, 1) := by decide +kernel
theorem dX6_reads_43 : decode cX6_reads 43 = .ok (.invokevirtual 80, 3) := by decide +kernel
theorem dX6_reads_46 : decode cX6_reads 46 = .ok (.ifCond .ne 5, 3) := by decide +kernel
theorem dX6_reads_49 : decode cX6_reads 49 = .ok (.iload_n 1, 1) := by decide +kernel
theorem dX6_reads_50 : decode cX6_reads 50 = .ok (.ireturn, 1) := by decide +kernel
theorem dX6_reads_51 : decode cX6_reads 51 = .ok (.goto (-25), 3) := by decide +kernel
theorem dX6_reads_54 : decode cX6_reads 54 = .ok (.bipush (-4), 2) := by decide +kernel
theorem dX6_reads_56 : decode cX6_reads 56 = .ok (.ireturn, 1) := by decide +kernel
set_option maxRecDepth 20000 in
theorem ggX6_write_X6_in : GoodIn wsX6_write wsX6_in := goodIn_r _ [6] (by decide +kernel) (by decide +kernel)
set_option maxRecDepth 20000 in
theorem gX6_write_X6_in : GoodIn wsX6_write (va_wsS RX6 48 yX6_in wsX6_in) := goodIn_app (goodIn_of _ (by decide +kernel)) ggX6_write_X6_in
theorem dX6_write_0 : decode cX6_write 0 = .ok (.iload_n 1, 1) := by decide +kernel
theorem dX6_write_1 : decode cX6_write 1 = .ok (.bipush 32, 2) := by decide +kernel
theorem dX6_write_3 : decode cX6_write 3 = .ok (.bipush 126, 2) := by decide +kernel
theorem dX6_write_5 : decode cX6_write 5 = .ok (.invokestatic 48, 3) := by decide +kernel
theorem dX6_write_8 : decode cX6_write 8 = .ok (.ifCond .ne 5, 3) := by decide +kernel
theorem dX6_write_11 : decode cX6_write 11 = .ok (.iconst (-1), 1) := by decide +kernel
theorem dX6_write_12 : decode cX6_write 12 = .ok (.ireturn, 1) := by decide +kernel
theorem dX6_write_13 : decode cX6_write 13 = .ok (.aload_n 0, 1) := by decide +kernel
theorem dX6_write_14 : decode cX6_write 14 = .ok (.getfield 67, 3) := by decide +kernel
theorem dX6_write_17 : decode cX6_write 17 = .ok (.bipush 60, 2) := by decide +kernel
theorem dX6_write_19 : decode cX6_write 19 = .ok (.if_icmp .ne 6, 3) := by decide +kernel
theorem dX6_write_22 : decode cX6_write 22 = .ok (.bipush (-3), 2) := by decide +kernel
theorem dX6_write_24 : decode cX6_write 24 = .ok (.ireturn, 1) := by decide +kernel
theorem dX6_write_25 : decode cX6_write 25 = .ok (.aload_n 0, 1) := by decide +kernel
theorem dX6_write_26 : decode cX6_write 26 = .ok (.getfield 22, 3) := by decide +kernel
theorem dX6_write_29 : decode cX6_write 29 = .ok (.aload_n 0, 1) := by decide +kernel
theorem dX6_write_30 : decode cX6_write 30 = .ok (.getfield 67, 3) := by decide +kernel
theorem dX6_write_33 : decode cX6_write 33 = .ok (.iload_n 1, 1) := by decide +kernel
theorem dX6_write_34 : decode cX6_write 34 = .ok (.iastore, 1) := by decide +kernel
theorem dX6_write_35 : decode cX6_write 35 = .ok (.aload_n 0, 1) := by decide +kernel
theorem dX6_write_36 : decode cX6_write 36 = .ok (.dup, 1) := by decide +kernel
theorem dX6_write_37 : decode cX6_write 37 = .ok (.getfield 67, 3) := by decide +kernel
theorem dX6_write_40 : decode cX6_write 40 = .ok (.iconst 1, 1) := by decide +kernel
theorem dX6_write_41 : decode cX6_write 41 = .ok (.iadd, 1) := by decide +kernel
theorem dX6_write_42 : decode cX6_write 42 = .ok (.putfield 67, 3) := by decide +kernel
theorem dX6_write_45 : decode cX6_write 45 = .ok (.aload_n 0, 1) := by decide +kernel
theorem dX6_write_46 : decode cX6_write 46 = .ok (.getfield 67, 3) := by decide +kernel
theorem dX6_write_49 : decode cX6_write 49 = .ok (.ireturn, 1) := by decide +kernel
theorem dX6_wipe_0 : decode cX6_wipe 0 = .ok (.aload_n 0, 1) := by decide +kernel
theorem dX6_wipe_1 : decode cX6_wipe 1 = .ok (.getfield 67, 3) := by decide +kernel
theorem dX6_wipe_4 : decode cX6_wipe 4 = .ok (.istore_n 1, 1) := by decide +kernel
theorem dX6_wipe_5 : decode cX6_wipe 5 = .ok (.aload_n 0, 1) := by decide +kernel
theorem dX6_wipe_6 : decode cX6_wipe 6 = .ok (.iconst 0, 1) := by decide +kernel
theorem dX6_wipe_7 : decode cX6_wipe 7 = .ok (.putfield 67, 3) := by decide +kernel
theorem dX6_wipe_10 : decode cX6_wipe 10 = .ok (.iload_n 1, 1) := by decide +kernel
theorem dX6_wipe_11 : decode cX6_wipe 11 = .ok (.ireturn, 1) := by decide +kernel
set_option maxRecDepth 20000 in
theorem ggX6_fault_X6_reads : GoodIn wsX6_fault wsX6_reads := goodIn_r _ [5, 6, 7, 8, 9, 10, 11, 4, 12, 13, 14, 15, 16, 17, 18, 19, 20, 21, 22, 23, 24, 25, 26, 27, 28, 29, 30, 31, 32, 33, 34, 35, 36, 37, 38, 39, 40, 41, 42, 43, 44, 45, 46, 47, 48, 49, 50, 51, 52, 53] (by decide +kernel) (by decide +kernel)
set_option maxRecDepth 20000 in
theorem gX6_fault_X6_reads : GoodIn wsX6_fault (wsV RX6 84 RX6 yX6_reads wsX6_reads) := goodIn_app (goodIn_of _ (by decide +kernel)) ggX6_fault_X6_reads
theorem dX6_fault_0 : decode cX6_fault 0 = .ok (.aload_n 0, 1) := by decide +kernel
theorem dX6_fault_1 : decode cX6_fault 1 = .ok (.invokevirtual 84, 3) := by decide +kernel
theorem dX6_fault_4 : decode cX6_fault 4 = .ok (.ireturn, 1) := by decide +kernel
set_option maxRecDepth 20000 in
theorem ggX6_lay_X6_reads : GoodIn wsX6_lay wsX6_reads := goodIn_r _ [8, 1, 9, 10, 11, 12, 13, 7, 14, 15, 16, 17, 18, 19, 20, 21, 22, 23, 24, 25, 26, 27, 28, 29, 30, 31, 32, 33, 34, 35, 36, 40, 41, 42, 43, 44, 45, 46, 47, 48, 49, 50, 51, 52, 53, 54, 55, 56, 57, 58] (by decide +kernel) (by decide +kernel)
set_option maxRecDepth 20000 in
theorem gX6_lay_X6_reads : GoodIn wsX6_lay (wsV RX6 84 RX6 yX6_reads wsX6_reads) := goodIn_app (goodIn_of _ (by decide +kernel)) ggX6_lay_X6_reads
set_option maxRecDepth 20000 in
theorem ggX6_lay_X6_copies : GoodIn wsX6_lay wsX6_copies := goodIn_r _ [39] (by decide +kernel) (by decide +kernel)
set_option maxRecDepth 20000 in
theorem gX6_lay_X6_copies : GoodIn wsX6_lay (va_wsS RX6 88 yX6_copies wsX6_copies) := goodIn_app (goodIn_of _ (by decide +kernel)) ggX6_lay_X6_copies
set_option maxRecDepth 20000 in
theorem ggX6_lay_X6_cells : GoodIn wsX6_lay wsX6_cells := goodIn_r _ [24] (by decide +kernel) (by decide +kernel)
set_option maxRecDepth 20000 in
theorem gX6_lay_X6_cells : GoodIn wsX6_lay (va_wsS RX6 52 yX6_cells wsX6_cells) := goodIn_app (goodIn_of _ (by decide +kernel)) ggX6_lay_X6_cells
theorem dX6_lay_0 : decode cX6_lay 0 = .ok (.aload_n 0, 1) := by decide +kernel
theorem dX6_lay_1 : decode cX6_lay 1 = .ok (.invokevirtual 84, 3) := by decide +kernel
theorem dX6_lay_4 : decode cX6_lay 4 = .ok (.bipush (-4), 2) := by decide +kernel
theorem dX6_lay_6 : decode cX6_lay 6 = .ok (.if_icmp .ne 12, 3) := by decide +kernel
theorem dX6_lay_9 : decode cX6_lay 9 = .ok (.aload_n 0, 1) := by decide +kernel
theorem dX6_lay_10 : decode cX6_lay 10 = .ok (.getfield 13, 3) := by decide +kernel
theorem dX6_lay_13 : decode cX6_lay 13 = .ok (.iconst 1, 1) := by decide +kernel
theorem dX6_lay_14 : decode cX6_lay 14 = .ok (.iaload, 1) := by decide +kernel
theorem dX6_lay_15 : decode cX6_lay 15 = .ok (.ifCond .ne 6, 3) := by decide +kernel
theorem dX6_lay_18 : decode cX6_lay 18 = .ok (.bipush (-2), 2) := by decide +kernel
theorem dX6_lay_20 : decode cX6_lay 20 = .ok (.ireturn, 1) := by decide +kernel
theorem dX6_lay_21 : decode cX6_lay 21 = .ok (.aload_n 0, 1) := by decide +kernel
theorem dX6_lay_22 : decode cX6_lay 22 = .ok (.getfield 13, 3) := by decide +kernel
theorem dX6_lay_25 : decode cX6_lay 25 = .ok (.iconst 0, 1) := by decide +kernel
theorem dX6_lay_26 : decode cX6_lay 26 = .ok (.aload_n 0, 1) := by decide +kernel
theorem dX6_lay_27 : decode cX6_lay 27 = .ok (.getfield 7, 3) := by decide +kernel
theorem dX6_lay_30 : decode cX6_lay 30 = .ok (.iconst 0, 1) := by decide +kernel
theorem dX6_lay_31 : decode cX6_lay 31 = .ok (.invokestatic 88, 3) := by decide +kernel
theorem dX6_lay_34 : decode cX6_lay 34 = .ok (.aload_n 0, 1) := by decide +kernel
theorem dX6_lay_35 : decode cX6_lay 35 = .ok (.iconst 0, 1) := by decide +kernel
theorem dX6_lay_36 : decode cX6_lay 36 = .ok (.putfield 92, 3) := by decide +kernel
theorem dX6_lay_39 : decode cX6_lay 39 = .ok (.aload_n 0, 1) := by decide +kernel
theorem dX6_lay_40 : decode cX6_lay 40 = .ok (.getfield 7, 3) := by decide +kernel
theorem dX6_lay_43 : decode cX6_lay 43 = .ok (.invokestatic 52, 3) := by decide +kernel
theorem dX6_lay_46 : decode cX6_lay 46 = .ok (.ireturn, 1) := by decide +kernel
set_option maxRecDepth 20000 in
theorem ggX6_keeps_X6_copies : GoodIn wsX6_keeps wsX6_copies := goodIn_r _ [7] (by decide +kernel) (by decide +kernel)
set_option maxRecDepth 20000 in
theorem gX6_keeps_X6_copies : GoodIn wsX6_keeps (va_wsS RX6 88 yX6_copies wsX6_copies) := goodIn_app (goodIn_of _ (by decide +kernel)) ggX6_keeps_X6_copies
theorem dX6_keeps_0 : decode cX6_keeps 0 = .ok (.aload_n 0, 1) := by decide +kernel
theorem dX6_keeps_1 : decode cX6_keeps 1 = .ok (.getfield 92, 3) := by decide +kernel
theorem dX6_keeps_4 : decode cX6_keeps 4 = .ok (.iconst 4, 1) := by decide +kernel
theorem dX6_keeps_5 : decode cX6_keeps 5 = .ok (.if_icmp .ne 42, 3) := by decide +kernel
theorem dX6_keeps_8 : decode cX6_keeps 8 = .ok (.iconst 0, 1) := by decide +kernel
theorem dX6_keeps_9 : decode cX6_keeps 9 = .ok (.istore_n 1, 1) := by decide +kernel
theorem dX6_keeps_10 : decode cX6_keeps 10 = .ok (.iload_n 1, 1) := by decide +kernel
theorem dX6_keeps_11 : decode cX6_keeps 11 = .ok (.bipush 66, 2) := by decide +kernel
theorem dX6_keeps_13 : decode cX6_keeps 13 = .ok (.if_icmp .ge 24, 3) := by decide +kernel
theorem dX6_keeps_16 : decode cX6_keeps 16 = .ok (.aload_n 0, 1) := by decide +kernel
theorem dX6_keeps_17 : decode cX6_keeps 17 = .ok (.getfield 19, 3) := by decide +kernel
theorem dX6_keeps_20 : decode cX6_keeps 20 = .ok (.iload_n 1, 1) := by decide +kernel
theorem dX6_keeps_21 : decode cX6_keeps 21 = .ok (.aload_n 0, 1) := by decide +kernel
theorem dX6_keeps_22 : decode cX6_keeps 22 = .ok (.getfield 19, 3) := by decide +kernel
theorem dX6_keeps_25 : decode cX6_keeps 25 = .ok (.iload_n 1, 1) := by decide +kernel
theorem dX6_keeps_26 : decode cX6_keeps 26 = .ok (.bipush 22, 2) := by decide +kernel
theorem dX6_keeps_28 : decode cX6_keeps 28 = .ok (.iadd, 1) := by decide +kernel
theorem dX6_keeps_29 : decode cX6_keeps 29 = .ok (.iaload, 1) := by decide +kernel
theorem dX6_keeps_30 : decode cX6_keeps 30 = .ok (.iastore, 1) := by decide +kernel
theorem dX6_keeps_31 : decode cX6_keeps 31 = .ok (.iinc 1 1, 3) := by decide +kernel
theorem dX6_keeps_34 : decode cX6_keeps 34 = .ok (.goto (-24), 3) := by decide +kernel
theorem dX6_keeps_37 : decode cX6_keeps 37 = .ok (.aload_n 0, 1) := by decide +kernel
theorem dX6_keeps_38 : decode cX6_keeps 38 = .ok (.dup, 1) := by decide +kernel
theorem dX6_keeps_39 : decode cX6_keeps 39 = .ok (.getfield 92, 3) := by decide +kernel
theorem dX6_keeps_42 : decode cX6_keeps 42 = .ok (.iconst 1, 1) := by decide +kernel
theorem dX6_keeps_43 : decode cX6_keeps 43 = .ok (.isub, 1) := by decide +kernel
theorem dX6_keeps_44 : decode cX6_keeps 44 = .ok (.putfield 92, 3) := by decide +kernel
theorem dX6_keeps_47 : decode cX6_keeps 47 = .ok (.aload_n 0, 1) := by decide +kernel
theorem dX6_keeps_48 : decode cX6_keeps 48 = .ok (.getfield 7, 3) := by decide +kernel
theorem dX6_keeps_51 : decode cX6_keeps 51 = .ok (.iconst 0, 1) := by decide +kernel
theorem dX6_keeps_52 : decode cX6_keeps 52 = .ok (.aload_n 0, 1) := by decide +kernel
theorem dX6_keeps_53 : decode cX6_keeps 53 = .ok (.getfield 19, 3) := by decide +kernel
theorem dX6_keeps_56 : decode cX6_keeps 56 = .ok (.bipush 22, 2) := by decide +kernel
theorem dX6_keeps_58 : decode cX6_keeps 58 = .ok (.aload_n 0, 1) := by decide +kernel
theorem dX6_keeps_59 : decode cX6_keeps 59 = .ok (.getfield 92, 3) := by decide +kernel
theorem dX6_keeps_62 : decode cX6_keeps 62 = .ok (.imul, 1) := by decide +kernel
theorem dX6_keeps_63 : decode cX6_keeps 63 = .ok (.invokestatic 88, 3) := by decide +kernel
theorem dX6_keeps_66 : decode cX6_keeps 66 = .ok (.aload_n 0, 1) := by decide +kernel
theorem dX6_keeps_67 : decode cX6_keeps 67 = .ok (.dup, 1) := by decide +kernel
theorem dX6_keeps_68 : decode cX6_keeps 68 = .ok (.getfield 92, 3) := by decide +kernel
theorem dX6_keeps_71 : decode cX6_keeps 71 = .ok (.iconst 1, 1) := by decide +kernel
theorem dX6_keeps_72 : decode cX6_keeps 72 = .ok (.iadd, 1) := by decide +kernel
theorem dX6_keeps_73 : decode cX6_keeps 73 = .ok (.putfield 92, 3) := by decide +kernel
theorem dX6_keeps_76 : decode cX6_keeps 76 = .ok (.return_, 1) := by decide +kernel
set_option maxRecDepth 20000 in
theorem ggX6_undo_X6_copies : GoodIn wsX6_undo wsX6_copies := goodIn_r _ [7] (by decide +kernel) (by decide +kernel)
set_option maxRecDepth 20000 in
theorem gX6_undo_X6_copies : GoodIn wsX6_undo (va_wsS RX6 88 yX6_copies wsX6_copies) := goodIn_app (goodIn_of _ (by decide +kernel)) ggX6_undo_X6_copies
theorem dX6_undo_0 : decode cX6_undo 0 = .ok (.aload_n 0, 1) := by decide +kernel
theorem dX6_undo_1 : decode cX6_undo 1 = .ok (.getfield 92, 3) := by decide +kernel
theorem dX6_undo_4 : decode cX6_undo 4 = .ok (.ifCond .ne 6, 3) := by decide +kernel
theorem dX6_undo_7 : decode cX6_undo 7 = .ok (.bipush (-2), 2) := by decide +kernel
theorem dX6_undo_9 : decode cX6_undo 9 = .ok (.ireturn, 1) := by decide +kernel
theorem dX6_undo_10 : decode cX6_undo 10 = .ok (.aload_n 0, 1) := by decide +kernel
theorem dX6_undo_11 : decode cX6_undo 11 = .ok (.dup, 1) := by decide +kernel
theorem dX6_undo_12 : decode cX6_undo 12 = .ok (.getfield 92, 3) := by decide +kernel
theorem dX6_undo_15 : decode cX6_undo 15 = .ok (.iconst 1, 1) := by decide +kernel
theorem dX6_undo_16 : decode cX6_undo 16 = .ok (.isub, 1) := by decide +kernel
theorem dX6_undo_17 : decode cX6_undo 17 = .ok (.putfield 92, 3) := by decide +kernel
theorem dX6_undo_20 : decode cX6_undo 20 = .ok (.aload_n 0, 1) := by decide +kernel
theorem dX6_undo_21 : decode cX6_undo 21 = .ok (.getfield 19, 3) := by decide +kernel
theorem dX6_undo_24 : decode cX6_undo 24 = .ok (.bipush 22, 2) := by decide +kernel
theorem dX6_undo_26 : decode cX6_undo 26 = .ok (.aload_n 0, 1) := by decide +kernel
theorem dX6_undo_27 : decode cX6_undo 27 = .ok (.getfield 92, 3) := by decide +kernel
theorem dX6_undo_30 : decode cX6_undo 30 = .ok (.imul, 1) := by decide +kernel
theorem dX6_undo_31 : decode cX6_undo 31 = .ok (.aload_n 0, 1) := by decide +kernel
theorem dX6_undo_32 : decode cX6_undo 32 = .ok (.getfield 7, 3) := by decide +kernel
theorem dX6_undo_35 : decode cX6_undo 35 = .ok (.iconst 0, 1) := by decide +kernel
theorem dX6_undo_36 : decode cX6_undo 36 = .ok (.invokestatic 88, 3) := by decide +kernel
theorem dX6_undo_39 : decode cX6_undo 39 = .ok (.aload_n 0, 1) := by decide +kernel
theorem dX6_undo_40 : decode cX6_undo 40 = .ok (.getfield 92, 3) := by decide +kernel
theorem dX6_undo_43 : decode cX6_undo 43 = .ok (.ireturn, 1) := by decide +kernel
set_option maxRecDepth 20000 in
theorem ggX6_isCell_X6_cells : GoodIn wsX6_isCell wsX6_cells := goodIn_r _ [5] (by decide +kernel) (by decide +kernel)
set_option maxRecDepth 20000 in
theorem gX6_isCell_X6_cells : GoodIn wsX6_isCell (va_wsS RX6 52 yX6_cells wsX6_cells) := goodIn_app (goodIn_of _ (by decide +kernel)) ggX6_isCell_X6_cells
set_option maxRecDepth 20000 in
theorem ggX6_isCell_X6_in : GoodIn wsX6_isCell wsX6_in := goodIn_r _ [8] (by decide +kernel) (by decide +kernel)
set_option maxRecDepth 20000 in
theorem gX6_isCell_X6_in : GoodIn wsX6_isCell (va_wsS RX6 48 yX6_in wsX6_in) := goodIn_app (goodIn_of _ (by decide +kernel)) ggX6_isCell_X6_in
theorem dX6_isCell_0 : decode cX6_isCell 0 = .ok (.iload_n 1, 1) := by decide +kernel
theorem dX6_isCell_1 : decode cX6_isCell 1 = .ok (.iconst 0, 1) := by decide +kernel
theorem dX6_isCell_2 : decode cX6_isCell 2 = .ok (.aload_n 0, 1) := by decide +kernel
theorem dX6_isCell_3 : decode cX6_isCell 3 = .ok (.getfield 7, 3) := by decide +kernel
theorem dX6_isCell_6 : decode cX6_isCell 6 = .ok (.invokestatic 52, 3) := by decide +kernel
theorem dX6_isCell_9 : decode cX6_isCell 9 = .ok (.iconst 1, 1) := by decide +kernel
theorem dX6_isCell_10 : decode cX6_isCell 10 = .ok (.isub, 1) := by decide +kernel
theorem dX6_isCell_11 : decode cX6_isCell 11 = .ok (.invokestatic 48, 3) := by decide +kernel
theorem dX6_isCell_14 : decode cX6_isCell 14 = .ok (.ireturn, 1) := by decide +kernel
set_option maxRecDepth 20000 in
theorem ggX6_put_X6_isCell : GoodIn wsX6_put wsX6_isCell := goodIn_r _ [6, 1, 7, 8, 5, 9, 10, 11, 12, 34, 35, 36, 37, 38, 39, 40, 41, 42, 43, 44, 45, 46, 47, 48, 49, 50, 51, 52] (by decide +kernel) (by decide +kernel)
set_option maxRecDepth 20000 in
theorem gX6_put_X6_isCell : GoodIn wsX6_put (wsV RX6 95 RX6 yX6_isCell wsX6_isCell) := goodIn_app (goodIn_of _ (by decide +kernel)) ggX6_put_X6_isCell
set_option maxRecDepth 20000 in
theorem ggX6_put_X6_in : GoodIn wsX6_put wsX6_in := goodIn_r _ [12] (by decide +kernel) (by decide +kernel)
set_option maxRecDepth 20000 in
theorem gX6_put_X6_in : GoodIn wsX6_put (va_wsS RX6 48 yX6_in wsX6_in) := goodIn_app (goodIn_of _ (by decide +kernel)) ggX6_put_X6_in
set_option maxRecDepth 20000 in
theorem ggX6_put_X6_isHalf : GoodIn wsX6_put wsX6_isHalf := goodIn_r _ [15, 10, 11, 5, 12] (by decide +kernel) (by decide +kernel)
set_option maxRecDepth 20000 in
theorem gX6_put_X6_isHalf : GoodIn wsX6_put (va_wsS RX6 56 yX6_isHalf wsX6_isHalf) := goodIn_app (goodIn_of _ (by decide +kernel)) ggX6_put_X6_isHalf
set_option maxRecDepth 20000 in
theorem ggX6_put_X6_halves : GoodIn wsX6_put wsX6_halves := goodIn_r _ [18, 7, 8, 5, 9, 13, 14, 15, 10, 11, 12] (by decide +kernel) (by decide +kernel)
set_option maxRecDepth 20000 in
theorem gX6_put_X6_halves : GoodIn wsX6_put (va_wsS RX6 74 yX6_halves wsX6_halves) := goodIn_app (goodIn_of _ (by decide +kernel)) ggX6_put_X6_halves
set_option maxRecDepth 20000 in
theorem ggX6_put_X6_isDoor : GoodIn wsX6_put wsX6_isDoor := goodIn_r _ [21, 10, 11, 5, 12] (by decide +kernel) (by decide +kernel)
set_option maxRecDepth 20000 in
theorem gX6_put_X6_isDoor : GoodIn wsX6_put (va_wsS RX6 60 yX6_isDoor wsX6_isDoor) := goodIn_app (goodIn_of _ (by decide +kernel)) ggX6_put_X6_isDoor
set_option maxRecDepth 20000 in
theorem ggX6_put_X6_doors : GoodIn wsX6_put wsX6_doors := goodIn_r _ [24, 7, 8, 5, 9, 19, 20, 21, 10, 11, 12] (by decide +kernel) (by decide +kernel)
set_option maxRecDepth 20000 in
theorem gX6_put_X6_doors : GoodIn wsX6_put (va_wsS RX6 77 yX6_doors wsX6_doors) := goodIn_app (goodIn_of _ (by decide +kernel)) ggX6_put_X6_doors
set_option maxRecDepth 20000 in
theorem ggX6_put_X6_keeps : GoodIn wsX6_put wsX6_keeps := goodIn_r _ [28, 29, 30, 1, 31, 32, 5, 33, 34, 35, 36, 37, 38, 39, 40, 41, 42, 43, 44, 45, 46, 47, 48, 49, 50, 51, 52] (by decide +kernel) (by decide +kernel)
set_option maxRecDepth 20000 in
theorem gX6_put_X6_keeps : GoodIn wsX6_put (wsV RX6 98 RX6 yX6_keeps wsX6_keeps) := goodIn_app (goodIn_of _ (by decide +kernel)) ggX6_put_X6_keeps
theorem dX6_put_0 : decode cX6_put 0 = .ok (.aload_n 0, 1) := by decide +kernel
theorem dX6_put_1 : decode cX6_put 1 = .ok (.iload_n 1, 1) := by decide +kernel
theorem dX6_put_2 : decode cX6_put 2 = .ok (.invokevirtual 95, 3) := by decide +kernel
theorem dX6_put_5 : decode cX6_put 5 = .ok (.ifCond .eq 13, 3) := by decide +kernel
theorem dX6_put_8 : decode cX6_put 8 = .ok (.iload_n 2, 1) := by decide +kernel
theorem dX6_put_9 : decode cX6_put 9 = .ok (.iconst 0, 1) := by decide +kernel
theorem dX6_put_10 : decode cX6_put 10 = .ok (.bipush 7, 2) := by decide +kernel
theorem dX6_put_12 : decode cX6_put 12 = .ok (.invokestatic 48, 3) := by decide +kernel
theorem dX6_put_15 : decode cX6_put 15 = .ok (.ifCond .ne 5, 3) := by decide +kernel
theorem dX6_put_18 : decode cX6_put 18 = .ok (.iconst (-1), 1) := by decide +kernel
theorem dX6_put_19 : decode cX6_put 19 = .ok (.ireturn, 1) := by decide +kernel
theorem dX6_put_20 : decode cX6_put 20 = .ok (.aload_n 0, 1) := by decide +kernel
theorem dX6_put_21 : decode cX6_put 21 = .ok (.getfield 7, 3) := by decide +kernel
theorem dX6_put_24 : decode cX6_put 24 = .ok (.iconst 2, 1) := by decide +kernel
theorem dX6_put_25 : decode cX6_put 25 = .ok (.iload_n 1, 1) := by decide +kernel
theorem dX6_put_26 : decode cX6_put 26 = .ok (.iadd, 1) := by decide +kernel
theorem dX6_put_27 : decode cX6_put 27 = .ok (.iaload, 1) := by decide +kernel
theorem dX6_put_28 : decode cX6_put 28 = .ok (.istore_n 3, 1) := by decide +kernel
theorem dX6_put_29 : decode cX6_put 29 = .ok (.iload_n 3, 1) := by decide +kernel
theorem dX6_put_30 : decode cX6_put 30 = .ok (.iload_n 2, 1) := by decide +kernel
theorem dX6_put_31 : decode cX6_put 31 = .ok (.if_icmp .ne 6, 3) := by decide +kernel
theorem dX6_put_34 : decode cX6_put 34 = .ok (.bipush (-2), 2) := by decide +kernel
theorem dX6_put_36 : decode cX6_put 36 = .ok (.ireturn, 1) := by decide +kernel
theorem dX6_put_37 : decode cX6_put 37 = .ok (.iload_n 2, 1) := by decide +kernel
theorem dX6_put_38 : decode cX6_put 38 = .ok (.invokestatic 56, 3) := by decide +kernel
theorem dX6_put_41 : decode cX6_put 41 = .ok (.ifCond .eq 25, 3) := by decide +kernel
theorem dX6_put_44 : decode cX6_put 44 = .ok (.iload_n 3, 1) := by decide +kernel
theorem dX6_put_45 : decode cX6_put 45 = .ok (.invokestatic 56, 3) := by decide +kernel
theorem dX6_put_48 : decode cX6_put 48 = .ok (.ifCond .ne 18, 3) := by decide +kernel
theorem dX6_put_51 : decode cX6_put 51 = .ok (.aload_n 0, 1) := by decide +kernel
theorem dX6_put_52 : decode cX6_put 52 = .ok (.getfield 7, 3) := by decide +kernel
theorem dX6_put_55 : decode cX6_put 55 = .ok (.invokestatic 74, 3) := by decide +kernel
theorem dX6_put_58 : decode cX6_put 58 = .ok (.iconst 5, 1) := by decide +kernel
theorem dX6_put_59 : decode cX6_put 59 = .ok (.if_icmp .ne 7, 3) := by decide +kernel
theorem dX6_put_62 : decode cX6_put 62 = .ok (.iconst 1, 1) := by decide +kernel
theorem dX6_put_63 : decode cX6_put 63 = .ok (.goto 4, 3) := by decide +kernel
theorem dX6_put_66 : decode cX6_put 66 = .ok (.iconst 0, 1) := by decide +kernel
theorem dX6_put_67 : decode cX6_put 67 = .ok (.istore 4, 2) := by decide +kernel
theorem dX6_put_69 : decode cX6_put 69 = .ok (.iload_n 2, 1) := by decide +kernel
theorem dX6_put_70 : decode cX6_put 70 = .ok (.invokestatic 60, 3) := by decide +kernel
theorem dX6_put_73 : decode cX6_put 73 = .ok (.ifCond .eq 25, 3) := by decide +kernel
theorem dX6_put_76 : decode cX6_put 76 = .ok (.iload_n 3, 1) := by decide +kernel
theorem dX6_put_77 : decode cX6_put 77 = .ok (.invokestatic 60, 3) := by decide +kernel
theorem dX6_put_80 : decode cX6_put 80 = .ok (.ifCond .ne 18, 3) := by decide +kernel
theorem dX6_put_83 : decode cX6_put 83 = .ok (.aload_n 0, 1) := by decide +kernel
theorem dX6_put_84 : decode cX6_put 84 = .ok (.getfield 7, 3) := by decide +kernel
theorem dX6_put_87 : decode cX6_put 87 = .ok (.invokestatic 77, 3) := by decide +kernel
theorem dX6_put_90 : decode cX6_put 90 = .ok (.iconst 4, 1) := by decide +kernel
theorem dX6_put_91 : decode cX6_put 91 = .ok (.if_icmp .ne 7, 3) := by decide +kernel
theorem dX6_put_94 : decode cX6_put 94 = .ok (.iconst 1, 1) := by decide +kernel
theorem dX6_put_95 : decode cX6_put 95 = .ok (.goto 4, 3) := by decide +kernel
theorem dX6_put_98 : decode cX6_put 98 = .ok (.iconst 0, 1) := by decide +kernel
theorem dX6_put_99 : decode cX6_put 99 = .ok (.istore 5, 2) := by decide +kernel
theorem dX6_put_101 : decode cX6_put 101 = .ok (.iload 4, 2) := by decide +kernel
theorem dX6_put_103 : decode cX6_put 103 = .ok (.ifCond .ne 8, 3) := by decide +kernel
theorem dX6_put_106 : decode cX6_put 106 = .ok (.iload 5, 2) := by decide +kernel
theorem dX6_put_108 : decode cX6_put 108 = .ok (.ifCond .eq 6, 3) := by decide +kernel
theorem dX6_put_111 : decode cX6_put 111 = .ok (.bipush (-3), 2) := by decide +kernel
theorem dX6_put_113 : decode cX6_put 113 = .ok (.ireturn, 1) := by decide +kernel
theorem dX6_put_114 : decode cX6_put 114 = .ok (.aload_n 0, 1) := by decide +kernel
theorem dX6_put_115 : decode cX6_put 115 = .ok (.invokevirtual 98, 3) := by decide +kernel
theorem dX6_put_118 : decode cX6_put 118 = .ok (.aload_n 0, 1) := by decide +kernel
theorem dX6_put_119 : decode cX6_put 119 = .ok (.getfield 7, 3) := by decide +kernel
theorem dX6_put_122 : decode cX6_put 122 = .ok (.iconst 2, 1) := by decide +kernel
theorem dX6_put_123 : decode cX6_put 123 = .ok (.iload_n 1, 1) := by decide +kernel
theorem dX6_put_124 : decode cX6_put 124 = .ok (.iadd, 1) := by decide +kernel
theorem dX6_put_125 : decode cX6_put 125 = .ok (.iload_n 2, 1) := by decide +kernel
theorem dX6_put_126 : decode cX6_put 126 = .ok (.iastore, 1) := by decide +kernel
theorem dX6_put_127 : decode cX6_put 127 = .ok (.iload_n 3, 1) := by decide +kernel
theorem dX6_put_128 : decode cX6_put 128 = .ok (.ireturn, 1) := by decide +kernel
set_option maxRecDepth 20000 in
theorem ggX6_doorCell_X6_cells : GoodIn wsX6_doorCell wsX6_cells := goodIn_r _ [4] (by decide +kernel) (by decide +kernel)
set_option maxRecDepth 20000 in
theorem gX6_doorCell_X6_cells : GoodIn wsX6_doorCell (va_wsS RX6 52 yX6_cells wsX6_cells) := goodIn_app (goodIn_of _ (by decide +kernel)) ggX6_doorCell_X6_cells
set_option maxRecDepth 20000 in
theorem ggX6_doorCell_X6_isDoor : GoodIn wsX6_doorCell wsX6_isDoor := goodIn_r _ [7, 8, 9, 3, 10] (by decide +kernel) (by decide +kernel)
set_option maxRecDepth 20000 in
theorem gX6_doorCell_X6_isDoor : GoodIn wsX6_doorCell (va_wsS RX6 60 yX6_isDoor wsX6_isDoor) := goodIn_app (goodIn_of _ (by decide +kernel)) ggX6_doorCell_X6_isDoor
theorem dX6_doorCell_0 : decode cX6_doorCell 0 = .ok (.iload_n 1, 1) := by decide +kernel
theorem dX6_doorCell_1 : decode cX6_doorCell 1 = .ok (.istore_n 2, 1) := by decide +kernel
theorem dX6_doorCell_2 : decode cX6_doorCell 2 = .ok (.iconst 0, 1) := by decide +kernel
theorem dX6_doorCell_3 : decode cX6_doorCell 3 = .ok (.istore_n 3, 1) := by decide +kernel
theorem dX6_doorCell_4 : decode cX6_doorCell 4 = .ok (.iload_n 3, 1) := by decide +kernel
theorem dX6_doorCell_5 : decode cX6_doorCell 5 = .ok (.aload_n 0, 1) := by decide +kernel
theorem dX6_doorCell_6 : decode cX6_doorCell 6 = .ok (.invokestatic 52, 3) := by decide +kernel
theorem dX6_doorCell_9 : decode cX6_doorCell 9 = .ok (.if_icmp .ge 29, 3) := by decide +kernel
theorem dX6_doorCell_12 : decode cX6_doorCell 12 = .ok (.aload_n 0, 1) := by decide +kernel
theorem dX6_doorCell_13 : decode cX6_doorCell 13 = .ok (.iconst 2, 1) := by decide +kernel
theorem dX6_doorCell_14 : decode cX6_doorCell 14 = .ok (.iload_n 3, 1) := by decide +kernel
theorem dX6_doorCell_15 : decode cX6_doorCell 15 = .ok (.iadd, 1) := by decide +kernel
theorem dX6_doorCell_16 : decode cX6_doorCell 16 = .ok (.iaload, 1) := by decide +kernel
theorem dX6_doorCell_17 : decode cX6_doorCell 17 = .ok (.invokestatic 60, 3) := by decide +kernel
theorem dX6_doorCell_20 : decode cX6_doorCell 20 = .ok (.ifCond .eq 12, 3) := by decide +kernel
theorem dX6_doorCell_23 : decode cX6_doorCell 23 = .ok (.iload_n 2, 1) := by decide +kernel
theorem dX6_doorCell_24 : decode cX6_doorCell 24 = .ok (.ifCond .ne 5, 3) := by decide +kernel
theorem dX6_doorCell_27 : decode cX6_doorCell 27 = .ok (.iload_n 3, 1) := by decide +kernel
theorem dX6_doorCell_28 : decode cX6_doorCell 28 = .ok (.ireturn, 1) := by decide +kernel
theorem dX6_doorCell_29 : decode cX6_doorCell 29 = .ok (.iinc 2 (-1), 3) := by decide +kernel
theorem dX6_doorCell_32 : decode cX6_doorCell 32 = .ok (.iinc 3 1, 3) := by decide +kernel
theorem dX6_doorCell_35 : decode cX6_doorCell 35 = .ok (.goto (-31), 3) := by decide +kernel
theorem dX6_doorCell_38 : decode cX6_doorCell 38 = .ok (.bipush (-4), 2) := by decide +kernel
theorem dX6_doorCell_40 : decode cX6_doorCell 40 = .ok (.ireturn, 1) := by decide +kernel
set_option maxRecDepth 20000 in
theorem ggX6_openOf_X6_cells : GoodIn wsX6_openOf wsX6_cells := goodIn_r _ [4] (by decide +kernel) (by decide +kernel)
set_option maxRecDepth 20000 in
theorem gX6_openOf_X6_cells : GoodIn wsX6_openOf (va_wsS RX6 52 yX6_cells wsX6_cells) := goodIn_app (goodIn_of _ (by decide +kernel)) ggX6_openOf_X6_cells
theorem dX6_openOf_0 : decode cX6_openOf 0 = .ok (.iconst 0, 1) := by decide +kernel
theorem dX6_openOf_1 : decode cX6_openOf 1 = .ok (.istore_n 1, 1) := by decide +kernel
theorem dX6_openOf_2 : decode cX6_openOf 2 = .ok (.iconst 0, 1) := by decide +kernel
theorem dX6_openOf_3 : decode cX6_openOf 3 = .ok (.istore_n 2, 1) := by decide +kernel
theorem dX6_openOf_4 : decode cX6_openOf 4 = .ok (.iload_n 2, 1) := by decide +kernel
theorem dX6_openOf_5 : decode cX6_openOf 5 = .ok (.aload_n 0, 1) := by decide +kernel
theorem dX6_openOf_6 : decode cX6_openOf 6 = .ok (.invokestatic 52, 3) := by decide +kernel
theorem dX6_openOf_9 : decode cX6_openOf 9 = .ok (.if_icmp .ge 27, 3) := by decide +kernel
theorem dX6_openOf_12 : decode cX6_openOf 12 = .ok (.iload_n 1, 1) := by decide +kernel
theorem dX6_openOf_13 : decode cX6_openOf 13 = .ok (.aload_n 0, 1) := by decide +kernel
theorem dX6_openOf_14 : decode cX6_openOf 14 = .ok (.iconst 2, 1) := by decide +kernel
theorem dX6_openOf_15 : decode cX6_openOf 15 = .ok (.iload_n 2, 1) := by decide +kernel
theorem dX6_openOf_16 : decode cX6_openOf 16 = .ok (.iadd, 1) := by decide +kernel
theorem dX6_openOf_17 : decode cX6_openOf 17 = .ok (.iaload, 1) := by decide +kernel
theorem dX6_openOf_18 : decode cX6_openOf 18 = .ok (.bipush 6, 2) := by decide +kernel
theorem dX6_openOf_20 : decode cX6_openOf 20 = .ok (.if_icmp .ne 7, 3) := by decide +kernel
theorem dX6_openOf_23 : decode cX6_openOf 23 = .ok (.iconst 1, 1) := by decide +kernel
theorem dX6_openOf_24 : decode cX6_openOf 24 = .ok (.goto 4, 3) := by decide +kernel
theorem dX6_openOf_27 : decode cX6_openOf 27 = .ok (.iconst 0, 1) := by decide +kernel
theorem dX6_openOf_28 : decode cX6_openOf 28 = .ok (.iadd, 1) := by decide +kernel
theorem dX6_openOf_29 : decode cX6_openOf 29 = .ok (.istore_n 1, 1) := by decide +kernel
theorem dX6_openOf_30 : decode cX6_openOf 30 = .ok (.iinc 2 1, 3) := by decide +kernel
theorem dX6_openOf_33 : decode cX6_openOf 33 = .ok (.goto (-29), 3) := by decide +kernel
theorem dX6_openOf_36 : decode cX6_openOf 36 = .ok (.iload_n 1, 1) := by decide +kernel
theorem dX6_openOf_37 : decode cX6_openOf 37 = .ok (.ireturn, 1) := by decide +kernel
set_option maxRecDepth 20000 in
theorem ggX6_isTheDoor_X6_doors : GoodIn wsX6_isTheDoor wsX6_doors := goodIn_r _ [5, 6, 7, 4, 8, 9, 10, 11, 12, 13, 14] (by decide +kernel) (by decide +kernel)
set_option maxRecDepth 20000 in
theorem gX6_isTheDoor_X6_doors : GoodIn wsX6_isTheDoor (va_wsS RX6 77 yX6_doors wsX6_doors) := goodIn_app (goodIn_of _ (by decide +kernel)) ggX6_isTheDoor_X6_doors
set_option maxRecDepth 20000 in
theorem ggX6_isTheDoor_X6_in : GoodIn wsX6_isTheDoor wsX6_in := goodIn_r _ [14] (by decide +kernel) (by decide +kernel)
set_option maxRecDepth 20000 in
theorem gX6_isTheDoor_X6_in : GoodIn wsX6_isTheDoor (va_wsS RX6 48 yX6_in wsX6_in) := goodIn_app (goodIn_of _ (by decide +kernel)) ggX6_isTheDoor_X6_in
theorem dX6_isTheDoor_0 : decode cX6_isTheDoor 0 = .ok (.iload_n 1, 1) := by decide +kernel
theorem dX6_isTheDoor_1 : decode cX6_isTheDoor 1 = .ok (.iconst 0, 1) := by decide +kernel
theorem dX6_isTheDoor_2 : decode cX6_isTheDoor 2 = .ok (.aload_n 0, 1) := by decide +kernel
theorem dX6_isTheDoor_3 : decode cX6_isTheDoor 3 = .ok (.getfield 7, 3) := by decide +kernel
theorem dX6_isTheDoor_6 : decode cX6_isTheDoor 6 = .ok (.invokestatic 77, 3) := by decide +kernel
theorem dX6_isTheDoor_9 : decode cX6_isTheDoor 9 = .ok (.iconst 1, 1) := by decide +kernel
theorem dX6_isTheDoor_10 : decode cX6_isTheDoor 10 = .ok (.isub, 1) := by decide +kernel
theorem dX6_isTheDoor_11 : decode cX6_isTheDoor 11 = .ok (.invokestatic 48, 3) := by decide +kernel
theorem dX6_isTheDoor_14 : decode cX6_isTheDoor 14 = .ok (.ireturn, 1) := by decide +kernel
set_option maxRecDepth 20000 in
theorem ggX6_door_X6_isTheDoor : GoodIn wsX6_door wsX6_isTheDoor := goodIn_r _ [6, 1, 7, 8, 5, 9, 10, 11, 12, 13, 14, 15, 16, 17, 18, 34, 35, 36, 37, 38, 39, 40, 41, 42, 43, 44, 45, 46, 47, 48, 49, 50, 51, 52] (by decide +kernel) (by decide +kernel)
set_option maxRecDepth 20000 in
theorem gX6_door_X6_isTheDoor : GoodIn wsX6_door (wsV RX6 101 RX6 yX6_isTheDoor wsX6_isTheDoor) := goodIn_app (goodIn_of _ (by decide +kernel)) ggX6_door_X6_isTheDoor
set_option maxRecDepth 20000 in
theorem ggX6_door_X6_in : GoodIn wsX6_door wsX6_in := goodIn_r _ [18] (by decide +kernel) (by decide +kernel)
set_option maxRecDepth 20000 in
theorem gX6_door_X6_in : GoodIn wsX6_door (va_wsS RX6 48 yX6_in wsX6_in) := goodIn_app (goodIn_of _ (by decide +kernel)) ggX6_door_X6_in
set_option maxRecDepth 20000 in
theorem ggX6_door_X6_doorCell : GoodIn wsX6_door wsX6_doorCell := goodIn_r _ [21, 10, 11, 5, 12, 13, 14, 15, 16, 17, 18] (by decide +kernel) (by decide +kernel)
set_option maxRecDepth 20000 in
theorem gX6_door_X6_doorCell : GoodIn wsX6_door (va_wsS RX6 104 yX6_doorCell wsX6_doorCell) := goodIn_app (goodIn_of _ (by decide +kernel)) ggX6_door_X6_doorCell
set_option maxRecDepth 20000 in
theorem ggX6_door_X6_keeps : GoodIn wsX6_door wsX6_keeps := goodIn_r _ [25, 26, 27, 1, 28, 29, 5, 30, 34, 35, 36, 37, 38, 39, 40, 41, 42, 43, 44, 45, 46, 47, 48, 49, 50, 51, 52] (by decide +kernel) (by decide +kernel)
set_option maxRecDepth 20000 in
theorem gX6_door_X6_keeps : GoodIn wsX6_door (wsV RX6 98 RX6 yX6_keeps wsX6_keeps) := goodIn_app (goodIn_of _ (by decide +kernel)) ggX6_door_X6_keeps
set_option maxRecDepth 20000 in
theorem ggX6_door_X6_openOf : GoodIn wsX6_door wsX6_openOf := goodIn_r _ [33, 10, 11, 5, 12] (by decide +kernel) (by decide +kernel)
set_option maxRecDepth 20000 in
theorem gX6_door_X6_openOf : GoodIn wsX6_door (va_wsS RX6 108 yX6_openOf wsX6_openOf) := goodIn_app (goodIn_of _ (by decide +kernel)) ggX6_door_X6_openOf
theorem dX6_door_0 : decode cX6_door 0 = .ok (.aload_n 0, 1) := by decide +kernel
theorem dX6_door_1 : decode cX6_door 1 = .ok (.iload_n 1, 1) := by decide +kernel
theorem dX6_door_2 : decode cX6_door 2 = .ok (.invokevirtual 101, 3) := by decide +kernel
theorem dX6_door_5 : decode cX6_door 5 = .ok (.ifCond .eq 12, 3) := by decide +kernel
theorem dX6_door_8 : decode cX6_door 8 = .ok (.iload_n 2, 1) := by decide +kernel
theorem dX6_door_9 : decode cX6_door 9 = .ok (.iconst 0, 1) := by decide +kernel
theorem dX6_door_10 : decode cX6_door 10 = .ok (.iconst 1, 1) := by decide +kernel
theorem dX6_door_11 : decode cX6_door 11 = .ok (.invokestatic 48, 3) := by decide +kernel
theorem dX6_door_14 : decode cX6_door 14 = .ok (.ifCond .ne 5, 3) := by decide +kernel
theorem dX6_door_17 : decode cX6_door 17 = .ok (.iconst (-1), 1) := by decide +kernel
theorem dX6_door_18 : decode cX6_door 18 = .ok (.ireturn, 1) := by decide +kernel
theorem dX6_door_19 : decode cX6_door 19 = .ok (.aload_n 0, 1) := by decide +kernel
theorem dX6_door_20 : decode cX6_door 20 = .ok (.getfield 7, 3) := by decide +kernel
theorem dX6_door_23 : decode cX6_door 23 = .ok (.iload_n 1, 1) := by decide +kernel
theorem dX6_door_24 : decode cX6_door 24 = .ok (.invokestatic 104, 3) := by decide +kernel
theorem dX6_door_27 : decode cX6_door 27 = .ok (.istore_n 3, 1) := by decide +kernel
theorem dX6_door_28 : decode cX6_door 28 = .ok (.aload_n 0, 1) := by decide +kernel
theorem dX6_door_29 : decode cX6_door 29 = .ok (.getfield 7, 3) := by decide +kernel
theorem dX6_door_32 : decode cX6_door 32 = .ok (.iconst 2, 1) := by decide +kernel
theorem dX6_door_33 : decode cX6_door 33 = .ok (.iload_n 3, 1) := by decide +kernel
theorem dX6_door_34 : decode cX6_door 34 = .ok (.iadd, 1) := by decide +kernel
theorem dX6_door_35 : decode cX6_door 35 = .ok (.iaload, 1) := by decide +kernel
theorem dX6_door_36 : decode cX6_door 36 = .ok (.bipush 7, 2) := by decide +kernel
theorem dX6_door_38 : decode cX6_door 38 = .ok (.iload_n 2, 1) := by decide +kernel
theorem dX6_door_39 : decode cX6_door 39 = .ok (.isub, 1) := by decide +kernel
theorem dX6_door_40 : decode cX6_door 40 = .ok (.if_icmp .ne 6, 3) := by decide +kernel
theorem dX6_door_43 : decode cX6_door 43 = .ok (.bipush (-2), 2) := by decide +kernel
theorem dX6_door_45 : decode cX6_door 45 = .ok (.ireturn, 1) := by decide +kernel
theorem dX6_door_46 : decode cX6_door 46 = .ok (.aload_n 0, 1) := by decide +kernel
theorem dX6_door_47 : decode cX6_door 47 = .ok (.invokevirtual 98, 3) := by decide +kernel
theorem dX6_door_50 : decode cX6_door 50 = .ok (.aload_n 0, 1) := by decide +kernel
theorem dX6_door_51 : decode cX6_door 51 = .ok (.getfield 7, 3) := by decide +kernel
theorem dX6_door_54 : decode cX6_door 54 = .ok (.iconst 2, 1) := by decide +kernel
theorem dX6_door_55 : decode cX6_door 55 = .ok (.iload_n 3, 1) := by decide +kernel
theorem dX6_door_56 : decode cX6_door 56 = .ok (.iadd, 1) := by decide +kernel
theorem dX6_door_57 : decode cX6_door 57 = .ok (.bipush 7, 2) := by decide +kernel
theorem dX6_door_59 : decode cX6_door 59 = .ok (.iload_n 2, 1) := by decide +kernel
theorem dX6_door_60 : decode cX6_door 60 = .ok (.isub, 1) := by decide +kernel
theorem dX6_door_61 : decode cX6_door 61 = .ok (.iastore, 1) := by decide +kernel
theorem dX6_door_62 : decode cX6_door 62 = .ok (.aload_n 0, 1) := by decide +kernel
theorem dX6_door_63 : decode cX6_door 63 = .ok (.getfield 7, 3) := by decide +kernel
theorem dX6_door_66 : decode cX6_door 66 = .ok (.invokestatic 108, 3) := by decide +kernel
theorem dX6_door_69 : decode cX6_door 69 = .ok (.ireturn, 1) := by decide +kernel
set_option maxRecDepth 20000 in
theorem ggX6_turn_X6_in : GoodIn wsX6_turn wsX6_in := goodIn_r _ [6] (by decide +kernel) (by decide +kernel)
set_option maxRecDepth 20000 in
theorem gX6_turn_X6_in : GoodIn wsX6_turn (va_wsS RX6 48 yX6_in wsX6_in) := goodIn_app (goodIn_of _ (by decide +kernel)) ggX6_turn_X6_in
set_option maxRecDepth 20000 in
theorem ggX6_turn_X6_keeps : GoodIn wsX6_turn wsX6_keeps := goodIn_r _ [10, 11, 12, 1, 13, 14, 5, 15, 19, 20, 21, 22, 23, 24, 25, 26, 27, 28, 29, 30, 31, 32, 33, 34, 35, 36, 37] (by decide +kernel) (by decide +kernel)
set_option maxRecDepth 20000 in
theorem gX6_turn_X6_keeps : GoodIn wsX6_turn (wsV RX6 98 RX6 yX6_keeps wsX6_keeps) := goodIn_app (goodIn_of _ (by decide +kernel)) ggX6_turn_X6_keeps
set_option maxRecDepth 20000 in
theorem ggX6_turn_X6_isHalf : GoodIn wsX6_turn wsX6_isHalf := goodIn_r _ [18, 3, 4, 5, 6] (by decide +kernel) (by decide +kernel)
set_option maxRecDepth 20000 in
theorem gX6_turn_X6_isHalf : GoodIn wsX6_turn (va_wsS RX6 56 yX6_isHalf wsX6_isHalf) := goodIn_app (goodIn_of _ (by decide +kernel)) ggX6_turn_X6_isHalf
set_option maxRecDepth 20000 in
theorem ggX6_turn_X6_copies : GoodIn wsX6_turn wsX6_copies := goodIn_r _ [15] (by decide +kernel) (by decide +kernel)
set_option maxRecDepth 20000 in
theorem gX6_turn_X6_copies : GoodIn wsX6_turn (va_wsS RX6 88 yX6_copies wsX6_copies) := goodIn_app (goodIn_of _ (by decide +kernel)) ggX6_turn_X6_copies
theorem dX6_turn_0 : decode cX6_turn 0 = .ok (.aload_n 0, 1) := by decide +kernel
theorem dX6_turn_1 : decode cX6_turn 1 = .ok (.getfield 7, 3) := by decide +kernel
theorem dX6_turn_4 : decode cX6_turn 4 = .ok (.iconst 0, 1) := by decide +kernel
theorem dX6_turn_5 : decode cX6_turn 5 = .ok (.iaload, 1) := by decide +kernel
theorem dX6_turn_6 : decode cX6_turn 6 = .ok (.istore_n 1, 1) := by decide +kernel
theorem dX6_turn_7 : decode cX6_turn 7 = .ok (.aload_n 0, 1) := by decide +kernel
theorem dX6_turn_8 : decode cX6_turn 8 = .ok (.getfield 7, 3) := by decide +kernel
theorem dX6_turn_11 : decode cX6_turn 11 = .ok (.iconst 1, 1) := by decide +kernel
theorem dX6_turn_12 : decode cX6_turn 12 = .ok (.iaload, 1) := by decide +kernel
theorem dX6_turn_13 : decode cX6_turn 13 = .ok (.istore_n 2, 1) := by decide +kernel
theorem dX6_turn_14 : decode cX6_turn 14 = .ok (.iload_n 2, 1) := by decide +kernel
theorem dX6_turn_15 : decode cX6_turn 15 = .ok (.iconst 2, 1) := by decide +kernel
theorem dX6_turn_16 : decode cX6_turn 16 = .ok (.iconst 5, 1) := by decide +kernel
theorem dX6_turn_17 : decode cX6_turn 17 = .ok (.invokestatic 48, 3) := by decide +kernel
theorem dX6_turn_20 : decode cX6_turn 20 = .ok (.ifCond .eq 8, 3) := by decide +kernel
theorem dX6_turn_23 : decode cX6_turn 23 = .ok (.iload_n 1, 1) := by decide +kernel
theorem dX6_turn_24 : decode cX6_turn 24 = .ok (.iconst 4, 1) := by decide +kernel
theorem dX6_turn_25 : decode cX6_turn 25 = .ok (.if_icmp .le 6, 3) := by decide +kernel
theorem dX6_turn_28 : decode cX6_turn 28 = .ok (.bipush (-2), 2) := by decide +kernel
theorem dX6_turn_30 : decode cX6_turn 30 = .ok (.ireturn, 1) := by decide +kernel
theorem dX6_turn_31 : decode cX6_turn 31 = .ok (.aload_n 0, 1) := by decide +kernel
theorem dX6_turn_32 : decode cX6_turn 32 = .ok (.invokevirtual 98, 3) := by decide +kernel
theorem dX6_turn_35 : decode cX6_turn 35 = .ok (.iconst 0, 1) := by decide +kernel
theorem dX6_turn_36 : decode cX6_turn 36 = .ok (.istore_n 3, 1) := by decide +kernel
theorem dX6_turn_37 : decode cX6_turn 37 = .ok (.iload_n 3, 1) := by decide +kernel
theorem dX6_turn_38 : decode cX6_turn 38 = .ok (.iload_n 2, 1) := by decide +kernel
theorem dX6_turn_39 : decode cX6_turn 39 = .ok (.if_icmp .ge 95, 3) := by decide +kernel
theorem dX6_turn_42 : decode cX6_turn 42 = .ok (.iconst 0, 1) := by decide +kernel
theorem dX6_turn_43 : decode cX6_turn 43 = .ok (.istore 4, 2) := by decide +kernel
theorem dX6_turn_45 : decode cX6_turn 45 = .ok (.iload 4, 2) := by decide +kernel
theorem dX6_turn_47 : decode cX6_turn 47 = .ok (.iload_n 1, 1) := by decide +kernel
theorem dX6_turn_48 : decode cX6_turn 48 = .ok (.if_icmp .ge 80, 3) := by decide +kernel
theorem dX6_turn_51 : decode cX6_turn 51 = .ok (.aload_n 0, 1) := by decide +kernel
theorem dX6_turn_52 : decode cX6_turn 52 = .ok (.getfield 7, 3) := by decide +kernel
theorem dX6_turn_55 : decode cX6_turn 55 = .ok (.iconst 2, 1) := by decide +kernel
theorem dX6_turn_56 : decode cX6_turn 56 = .ok (.iload_n 1, 1) := by decide +kernel
theorem dX6_turn_57 : decode cX6_turn 57 = .ok (.iload_n 3, 1) := by decide +kernel
theorem dX6_turn_58 : decode cX6_turn 58 = .ok (.imul, 1) := by decide +kernel
theorem dX6_turn_59 : decode cX6_turn 59 = .ok (.iadd, 1) := by decide +kernel
theorem dX6_turn_60 : decode cX6_turn 60 = .ok (.iload 4, 2) := by decide +kernel
theorem dX6_turn_62 : decode cX6_turn 62 = .ok (.iadd, 1) := by decide +kernel
theorem dX6_turn_63 : decode cX6_turn 63 = .ok (.iaload, 1) := by decide +kernel
theorem dX6_turn_64 : decode cX6_turn 64 = .ok (.istore 5, 2) := by decide +kernel
theorem dX6_turn_66 : decode cX6_turn 66 = .ok (.iload 5, 2) := by decide +kernel
theorem dX6_turn_68 : decode cX6_turn 68 = .ok (.iconst 1, 1) := by decide +kernel
theorem dX6_turn_69 : decode cX6_turn 69 = .ok (.iconst 2, 1) := by decide +kernel
theorem dX6_turn_70 : decode cX6_turn 70 = .ok (.invokestatic 48, 3) := by decide +kernel
theorem dX6_turn_73 : decode cX6_turn 73 = .ok (.ifCond .eq 10, 3) := by decide +kernel
theorem dX6_turn_76 : decode cX6_turn 76 = .ok (.iconst 3, 1) := by decide +kernel
theorem dX6_turn_77 : decode cX6_turn 77 = .ok (.iload 5, 2) := by decide +kernel
theorem dX6_turn_79 : decode cX6_turn 79 = .ok (.isub, 1) := by decide +kernel
theorem dX6_turn_80 : decode cX6_turn 80 = .ok (.goto 21, 3) := by decide +kernel
theorem dX6_turn_83 : decode cX6_turn 83 = .ok (.iload 5, 2) := by decide +kernel
theorem dX6_turn_85 : decode cX6_turn 85 = .ok (.invokestatic 56, 3) := by decide +kernel
theorem dX6_turn_88 : decode cX6_turn 88 = .ok (.ifCond .eq 11, 3) := by decide +kernel
theorem dX6_turn_91 : decode cX6_turn 91 = .ok (.bipush 7, 2) := by decide +kernel
theorem dX6_turn_93 : decode cX6_turn 93 = .ok (.iload 5, 2) := by decide +kernel
theorem dX6_turn_95 : decode cX6_turn 95 = .ok (.isub, 1) := by decide +kernel
theorem dX6_turn_96 : decode cX6_turn 96 = .ok (.goto 5, 3) := by decide +kernel
theorem dX6_turn_99 : decode cX6_turn 99 = .ok (.iload 5, 2) := by decide +kernel
theorem dX6_turn_101 : decode cX6_turn 101 = .ok (.istore 6, 2) := by decide +kernel
theorem dX6_turn_103 : decode cX6_turn 103 = .ok (.aload_n 0, 1) := by decide +kernel
theorem dX6_turn_104 : decode cX6_turn 104 = .ok (.getfield 16, 3) := by decide +kernel
theorem dX6_turn_107 : decode cX6_turn 107 = .ok (.iconst 2, 1) := by decide +kernel
theorem dX6_turn_108 : decode cX6_turn 108 = .ok (.iload_n 2, 1) := by decide +kernel
theorem dX6_turn_109 : decode cX6_turn 109 = .ok (.iload 4, 2) := by decide +kernel
theorem dX6_turn_111 : decode cX6_turn 111 = .ok (.imul, 1) := by decide +kernel
theorem dX6_turn_112 : decode cX6_turn 112 = .ok (.iadd, 1) := by decide +kernel
theorem dX6_turn_113 : decode cX6_turn 113 = .ok (.iload_n 2, 1) := by decide +kernel
theorem dX6_turn_114 : decode cX6_turn 114 = .ok (.iadd, 1) := by decide +kernel
theorem dX6_turn_115 : decode cX6_turn 115 = .ok (.iconst 1, 1) := by decide +kernel
theorem dX6_turn_116 : decode cX6_turn 116 = .ok (.isub, 1) := by decide +kernel
theorem dX6_turn_117 : decode cX6_turn 117 = .ok (.iload_n 3, 1) := by decide +kernel
theorem dX6_turn_118 : decode cX6_turn 118 = .ok (.isub, 1) := by decide +kernel
theorem dX6_turn_119 : decode cX6_turn 119 = .ok (.iload 6, 2) := by decide +kernel
theorem dX6_turn_121 : decode cX6_turn 121 = .ok (.iastore, 1) := by decide +kernel
theorem dX6_turn_122 : decode cX6_turn 122 = .ok (.iinc 4 1, 3) := by decide +kernel
theorem dX6_turn_125 : decode cX6_turn 125 = .ok (.goto (-80), 3) := by decide +kernel
theorem dX6_turn_128 : decode cX6_turn 128 = .ok (.iinc 3 1, 3) := by decide +kernel
theorem dX6_turn_131 : decode cX6_turn 131 = .ok (.goto (-94), 3) := by decide +kernel
theorem dX6_turn_134 : decode cX6_turn 134 = .ok (.aload_n 0, 1) := by decide +kernel
theorem dX6_turn_135 : decode cX6_turn 135 = .ok (.getfield 16, 3) := by decide +kernel
theorem dX6_turn_138 : decode cX6_turn 138 = .ok (.iconst 0, 1) := by decide +kernel
theorem dX6_turn_139 : decode cX6_turn 139 = .ok (.iload_n 2, 1) := by decide +kernel
theorem dX6_turn_140 : decode cX6_turn 140 = .ok (.iastore, 1) := by decide +kernel
theorem dX6_turn_141 : decode cX6_turn 141 = .ok (.aload_n 0, 1) := by decide +kernel
theorem dX6_turn_142 : decode cX6_turn 142 = .ok (.getfield 16, 3) := by decide +kernel
theorem dX6_turn_145 : decode cX6_turn 145 = .ok (.iconst 1, 1) := by decide +kernel
theorem dX6_turn_146 : decode cX6_turn 146 = .ok (.iload_n 1, 1) := by decide +kernel
theorem dX6_turn_147 : decode cX6_turn 147 = .ok (.iastore, 1) := by decide +kernel
theorem dX6_turn_148 : decode cX6_turn 148 = .ok (.aload_n 0, 1) := by decide +kernel
theorem dX6_turn_149 : decode cX6_turn 149 = .ok (.getfield 16, 3) := by decide +kernel
theorem dX6_turn_152 : decode cX6_turn 152 = .ok (.iconst 0, 1) := by decide +kernel
theorem dX6_turn_153 : decode cX6_turn 153 = .ok (.aload_n 0, 1) := by decide +kernel
theorem dX6_turn_154 : decode cX6_turn 154 = .ok (.getfield 7, 3) := by decide +kernel
theorem dX6_turn_157 : decode cX6_turn 157 = .ok (.iconst 0, 1) := by decide +kernel
theorem dX6_turn_158 : decode cX6_turn 158 = .ok (.invokestatic 88, 3) := by decide +kernel
theorem dX6_turn_161 : decode cX6_turn 161 = .ok (.iload_n 2, 1) := by decide +kernel
theorem dX6_turn_162 : decode cX6_turn 162 = .ok (.ireturn, 1) := by decide +kernel
set_option maxRecDepth 20000 in
theorem ggX6_cell_X6_isCell : GoodIn wsX6_cell wsX6_isCell := goodIn_r _ [6, 1, 7, 8, 5, 9, 10, 11, 12, 13, 14, 15, 16, 17, 18, 19, 20, 21, 22, 23, 24, 25, 26, 27, 28, 29, 30, 31] (by decide +kernel) (by decide +kernel)
set_option maxRecDepth 20000 in
theorem gX6_cell_X6_isCell : GoodIn wsX6_cell (wsV RX6 95 RX6 yX6_isCell wsX6_isCell) := goodIn_app (goodIn_of _ (by decide +kernel)) ggX6_cell_X6_isCell
theorem dX6_cell_0 : decode cX6_cell 0 = .ok (.aload_n 0, 1) := by decide +kernel
theorem dX6_cell_1 : decode cX6_cell 1 = .ok (.iload_n 1, 1) := by decide +kernel
theorem dX6_cell_2 : decode cX6_cell 2 = .ok (.invokevirtual 95, 3) := by decide +kernel
theorem dX6_cell_5 : decode cX6_cell 5 = .ok (.ifCond .eq 14, 3) := by decide +kernel
theorem dX6_cell_8 : decode cX6_cell 8 = .ok (.aload_n 0, 1) := by decide +kernel
theorem dX6_cell_9 : decode cX6_cell 9 = .ok (.getfield 7, 3) := by decide +kernel
theorem dX6_cell_12 : decode cX6_cell 12 = .ok (.iconst 2, 1) := by decide +kernel
theorem dX6_cell_13 : decode cX6_cell 13 = .ok (.iload_n 1, 1) := by decide +kernel
theorem dX6_cell_14 : decode cX6_cell 14 = .ok (.iadd, 1) := by decide +kernel
theorem dX6_cell_15 : decode cX6_cell 15 = .ok (.iaload, 1) := by decide +kernel
theorem dX6_cell_16 : decode cX6_cell 16 = .ok (.goto 4, 3) := by decide +kernel
theorem dX6_cell_19 : decode cX6_cell 19 = .ok (.iconst (-1), 1) := by decide +kernel
theorem dX6_cell_20 : decode cX6_cell 20 = .ok (.ireturn, 1) := by decide +kernel
set_option maxRecDepth 20000 in
theorem ggX6_doorAt_X6_isTheDoor : GoodIn wsX6_doorAt wsX6_isTheDoor := goodIn_r _ [6, 1, 7, 8, 5, 9, 10, 11, 12, 13, 14, 15, 16, 17, 18, 22, 23, 24, 25, 26, 27, 28, 29, 30, 31, 32, 33, 34, 35, 36, 37, 38, 39, 40] (by decide +kernel) (by decide +kernel)
set_option maxRecDepth 20000 in
theorem gX6_doorAt_X6_isTheDoor : GoodIn wsX6_doorAt (wsV RX6 101 RX6 yX6_isTheDoor wsX6_isTheDoor) := goodIn_app (goodIn_of _ (by decide +kernel)) ggX6_doorAt_X6_isTheDoor
set_option maxRecDepth 20000 in
theorem ggX6_doorAt_X6_doorCell : GoodIn wsX6_doorAt wsX6_doorCell := goodIn_r _ [21, 10, 11, 5, 12, 13, 14, 15, 16, 17, 18] (by decide +kernel) (by decide +kernel)
set_option maxRecDepth 20000 in
theorem gX6_doorAt_X6_doorCell : GoodIn wsX6_doorAt (va_wsS RX6 104 yX6_doorCell wsX6_doorCell) := goodIn_app (goodIn_of _ (by decide +kernel)) ggX6_doorAt_X6_doorCell
theorem dX6_doorAt_0 : decode cX6_doorAt 0 = .ok (.aload_n 0, 1) := by decide +kernel
theorem dX6_doorAt_1 : decode cX6_doorAt 1 = .ok (.iload_n 1, 1) := by decide +kernel
theorem dX6_doorAt_2 : decode cX6_doorAt 2 = .ok (.invokevirtual 101, 3) := by decide +kernel
theorem dX6_doorAt_5 : decode cX6_doorAt 5 = .ok (.ifCond .eq 14, 3) := by decide +kernel
theorem dX6_doorAt_8 : decode cX6_doorAt 8 = .ok (.aload_n 0, 1) := by decide +kernel
theorem dX6_doorAt_9 : decode cX6_doorAt 9 = .ok (.getfield 7, 3) := by decide +kernel
theorem dX6_doorAt_12 : decode cX6_doorAt 12 = .ok (.iload_n 1, 1) := by decide +kernel
theorem dX6_doorAt_13 : decode cX6_doorAt 13 = .ok (.invokestatic 104, 3) := by decide +kernel
theorem dX6_doorAt_16 : decode cX6_doorAt 16 = .ok (.goto 4, 3) := by decide +kernel
theorem dX6_doorAt_19 : decode cX6_doorAt 19 = .ok (.iconst (-1), 1) := by decide +kernel
theorem dX6_doorAt_20 : decode cX6_doorAt 20 = .ok (.ireturn, 1) := by decide +kernel
theorem dX6_ports_0 : decode cX6_ports 0 = .ok (.iconst 2, 1) := by decide +kernel
theorem dX6_ports_1 : decode cX6_ports 1 = .ok (.aload_n 0, 1) := by decide +kernel
theorem dX6_ports_2 : decode cX6_ports 2 = .ok (.iconst 0, 1) := by decide +kernel
theorem dX6_ports_3 : decode cX6_ports 3 = .ok (.iaload, 1) := by decide +kernel
theorem dX6_ports_4 : decode cX6_ports 4 = .ok (.aload_n 0, 1) := by decide +kernel
theorem dX6_ports_5 : decode cX6_ports 5 = .ok (.iconst 1, 1) := by decide +kernel
theorem dX6_ports_6 : decode cX6_ports 6 = .ok (.iaload, 1) := by decide +kernel
theorem dX6_ports_7 : decode cX6_ports 7 = .ok (.iadd, 1) := by decide +kernel
theorem dX6_ports_8 : decode cX6_ports 8 = .ok (.imul, 1) := by decide +kernel
theorem dX6_ports_9 : decode cX6_ports 9 = .ok (.ireturn, 1) := by decide +kernel
set_option maxRecDepth 20000 in
theorem ggX6_isPort_X6_ports : GoodIn wsX6_isPort wsX6_ports := goodIn_r _ [5] (by decide +kernel) (by decide +kernel)
set_option maxRecDepth 20000 in
theorem gX6_isPort_X6_ports : GoodIn wsX6_isPort (va_wsS RX6 111 yX6_ports wsX6_ports) := goodIn_app (goodIn_of _ (by decide +kernel)) ggX6_isPort_X6_ports
set_option maxRecDepth 20000 in
theorem ggX6_isPort_X6_in : GoodIn wsX6_isPort wsX6_in := goodIn_r _ [8] (by decide +kernel) (by decide +kernel)
set_option maxRecDepth 20000 in
theorem gX6_isPort_X6_in : GoodIn wsX6_isPort (va_wsS RX6 48 yX6_in wsX6_in) := goodIn_app (goodIn_of _ (by decide +kernel)) ggX6_isPort_X6_in
theorem dX6_isPort_0 : decode cX6_isPort 0 = .ok (.iload_n 1, 1) := by decide +kernel
theorem dX6_isPort_1 : decode cX6_isPort 1 = .ok (.iconst 0, 1) := by decide +kernel
theorem dX6_isPort_2 : decode cX6_isPort 2 = .ok (.aload_n 0, 1) := by decide +kernel
theorem dX6_isPort_3 : decode cX6_isPort 3 = .ok (.getfield 7, 3) := by decide +kernel
theorem dX6_isPort_6 : decode cX6_isPort 6 = .ok (.invokestatic 111, 3) := by decide +kernel
theorem dX6_isPort_9 : decode cX6_isPort 9 = .ok (.iconst 1, 1) := by decide +kernel
theorem dX6_isPort_10 : decode cX6_isPort 10 = .ok (.isub, 1) := by decide +kernel
theorem dX6_isPort_11 : decode cX6_isPort 11 = .ok (.invokestatic 48, 3) := by decide +kernel
theorem dX6_isPort_14 : decode cX6_isPort 14 = .ok (.ireturn, 1) := by decide +kernel
theorem dX6_portState_0 : decode cX6_portState 0 = .ok (.aload_n 0, 1) := by decide +kernel
theorem dX6_portState_1 : decode cX6_portState 1 = .ok (.iconst 0, 1) := by decide +kernel
theorem dX6_portState_2 : decode cX6_portState 2 = .ok (.iaload, 1) := by decide +kernel
theorem dX6_portState_3 : decode cX6_portState 3 = .ok (.istore_n 2, 1) := by decide +kernel
theorem dX6_portState_4 : decode cX6_portState 4 = .ok (.aload_n 0, 1) := by decide +kernel
theorem dX6_portState_5 : decode cX6_portState 5 = .ok (.iconst 1, 1) := by decide +kernel
theorem dX6_portState_6 : decode cX6_portState 6 = .ok (.iaload, 1) := by decide +kernel
theorem dX6_portState_7 : decode cX6_portState 7 = .ok (.istore_n 3, 1) := by decide +kernel
theorem dX6_portState_8 : decode cX6_portState 8 = .ok (.iload_n 1, 1) := by decide +kernel
theorem dX6_portState_9 : decode cX6_portState 9 = .ok (.iload_n 2, 1) := by decide +kernel
theorem dX6_portState_10 : decode cX6_portState 10 = .ok (.if_icmp .ge 9, 3) := by decide +kernel
theorem dX6_portState_13 : decode cX6_portState 13 = .ok (.iconst 4, 1) := by decide +kernel
theorem dX6_portState_14 : decode cX6_portState 14 = .ok (.iload_n 1, 1) := by decide +kernel
theorem dX6_portState_15 : decode cX6_portState 15 = .ok (.imul, 1) := by decide +kernel
theorem dX6_portState_16 : decode cX6_portState 16 = .ok (.iconst 2, 1) := by decide +kernel
theorem dX6_portState_17 : decode cX6_portState 17 = .ok (.iadd, 1) := by decide +kernel
theorem dX6_portState_18 : decode cX6_portState 18 = .ok (.ireturn, 1) := by decide +kernel
theorem dX6_portState_19 : decode cX6_portState 19 = .ok (.iload_n 1, 1) := by decide +kernel
theorem dX6_portState_20 : decode cX6_portState 20 = .ok (.iload_n 2, 1) := by decide +kernel
theorem dX6_portState_21 : decode cX6_portState 21 = .ok (.iload_n 3, 1) := by decide +kernel
theorem dX6_portState_22 : decode cX6_portState 22 = .ok (.iadd, 1) := by decide +kernel
theorem dX6_portState_23 : decode cX6_portState 23 = .ok (.if_icmp .ge 17, 3) := by decide +kernel
theorem dX6_portState_26 : decode cX6_portState 26 = .ok (.iconst 4, 1) := by decide +kernel
theorem dX6_portState_27 : decode cX6_portState 27 = .ok (.iload_n 2, 1) := by decide +kernel
theorem dX6_portState_28 : decode cX6_portState 28 = .ok (.iload_n 1, 1) := by decide +kernel
theorem dX6_portState_29 : decode cX6_portState 29 = .ok (.iload_n 2, 1) := by decide +kernel
theorem dX6_portState_30 : decode cX6_portState 30 = .ok (.isub, 1) := by decide +kernel
theorem dX6_portState_31 : decode cX6_portState 31 = .ok (.imul, 1) := by decide +kernel
theorem dX6_portState_32 : decode cX6_portState 32 = .ok (.iload_n 2, 1) := by decide +kernel
theorem dX6_portState_33 : decode cX6_portState 33 = .ok (.iadd, 1) := by decide +kernel
theorem dX6_portState_34 : decode cX6_portState 34 = .ok (.iconst 1, 1) := by decide +kernel
theorem dX6_portState_35 : decode cX6_portState 35 = .ok (.isub, 1) := by decide +kernel
theorem dX6_portState_36 : decode cX6_portState 36 = .ok (.imul, 1) := by decide +kernel
theorem dX6_portState_37 : decode cX6_portState 37 = .ok (.iconst 3, 1) := by decide +kernel
theorem dX6_portState_38 : decode cX6_portState 38 = .ok (.iadd, 1) := by decide +kernel
theorem dX6_portState_39 : decode cX6_portState 39 = .ok (.ireturn, 1) := by decide +kernel
theorem dX6_portState_40 : decode cX6_portState 40 = .ok (.iload_n 1, 1) := by decide +kernel
end
section
theorem dX6_portState_41 : decode cX6_portState 41 = .ok (.iconst 2, 1) := by decide +kernel
theorem dX6_portState_42 : decode cX6_portState 42 = .ok (.iload_n 2, 1) := by decide +kernel
theorem dX6_portState_43 : decode cX6_portState 43 = .ok (.imul, 1) := by decide +kernel
theorem dX6_portState_44 : decode cX6_portState 44 = .ok (.iload_n 3, 1) := by decide +kernel
theorem dX6_portState_45 : decode cX6_portState 45 = .ok (.iadd, 1) := by decide +kernel
theorem dX6_portState_46 : decode cX6_portState 46 = .ok (.if_icmp .ge 17, 3) := by decide +kernel
theorem dX6_portState_49 : decode cX6_portState 49 = .ok (.iconst 4, 1) := by decide +kernel
theorem dX6_portState_50 : decode cX6_portState 50 = .ok (.iload_n 2, 1) := by decide +kernel
theorem dX6_portState_51 : decode cX6_portState 51 = .ok (.iload_n 3, 1) := by decide +kernel
theorem dX6_portState_52 : decode cX6_portState 52 = .ok (.iconst 1, 1) := by decide +kernel
theorem dX6_portState_53 : decode cX6_portState 53 = .ok (.isub, 1) := by decide +kernel
theorem dX6_portState_54 : decode cX6_portState 54 = .ok (.imul, 1) := by decide +kernel
theorem dX6_portState_55 : decode cX6_portState 55 = .ok (.iload_n 1, 1) := by decide +kernel
theorem dX6_portState_56 : decode cX6_portState 56 = .ok (.iadd, 1) := by decide +kernel
theorem dX6_portState_57 : decode cX6_portState 57 = .ok (.iload_n 2, 1) := by decide +kernel
theorem dX6_portState_58 : decode cX6_portState 58 = .ok (.isub, 1) := by decide +kernel
theorem dX6_portState_59 : decode cX6_portState 59 = .ok (.iload_n 3, 1) := by decide +kernel
theorem dX6_portState_60 : decode cX6_portState 60 = .ok (.isub, 1) := by decide +kernel
theorem dX6_portState_61 : decode cX6_portState 61 = .ok (.imul, 1) := by decide +kernel
theorem dX6_portState_62 : decode cX6_portState 62 = .ok (.ireturn, 1) := by decide +kernel
theorem dX6_portState_63 : decode cX6_portState 63 = .ok (.iconst 4, 1) := by decide +kernel
theorem dX6_portState_64 : decode cX6_portState 64 = .ok (.iload_n 2, 1) := by decide +kernel
theorem dX6_portState_65 : decode cX6_portState 65 = .ok (.imul, 1) := by decide +kernel
theorem dX6_portState_66 : decode cX6_portState 66 = .ok (.iload_n 1, 1) := by decide +kernel
theorem dX6_portState_67 : decode cX6_portState 67 = .ok (.iconst 2, 1) := by decide +kernel
theorem dX6_portState_68 : decode cX6_portState 68 = .ok (.iload_n 2, 1) := by decide +kernel
theorem dX6_portState_69 : decode cX6_portState 69 = .ok (.imul, 1) := by decide +kernel
theorem dX6_portState_70 : decode cX6_portState 70 = .ok (.isub, 1) := by decide +kernel
theorem dX6_portState_71 : decode cX6_portState 71 = .ok (.iload_n 3, 1) := by decide +kernel
theorem dX6_portState_72 : decode cX6_portState 72 = .ok (.isub, 1) := by decide +kernel
theorem dX6_portState_73 : decode cX6_portState 73 = .ok (.imul, 1) := by decide +kernel
theorem dX6_portState_74 : decode cX6_portState 74 = .ok (.iconst 1, 1) := by decide +kernel
theorem dX6_portState_75 : decode cX6_portState 75 = .ok (.iadd, 1) := by decide +kernel
theorem dX6_portState_76 : decode cX6_portState 76 = .ok (.ireturn, 1) := by decide +kernel
set_option maxRecDepth 20000 in
theorem ggX6_port_X6_isPort : GoodIn wsX6_port wsX6_isPort := goodIn_r _ [6, 1, 7, 8, 5, 9, 10, 11, 12, 16, 17, 18, 19, 20, 21, 22, 23, 24, 25, 26, 27, 28, 29, 30, 31, 32, 33, 34] (by decide +kernel) (by decide +kernel)
set_option maxRecDepth 20000 in
theorem gX6_port_X6_isPort : GoodIn wsX6_port (wsV RX6 114 RX6 yX6_isPort wsX6_isPort) := goodIn_app (goodIn_of _ (by decide +kernel)) ggX6_port_X6_isPort
set_option maxRecDepth 20000 in
theorem ggX6_port_X6_in : GoodIn wsX6_port wsX6_in := goodIn_r _ [12] (by decide +kernel) (by decide +kernel)
set_option maxRecDepth 20000 in
theorem gX6_port_X6_in : GoodIn wsX6_port (va_wsS RX6 48 yX6_in wsX6_in) := goodIn_app (goodIn_of _ (by decide +kernel)) ggX6_port_X6_in
set_option maxRecDepth 20000 in
theorem ggX6_port_X6_portState : GoodIn wsX6_port wsX6_portState := goodIn_r _ [15] (by decide +kernel) (by decide +kernel)
set_option maxRecDepth 20000 in
theorem gX6_port_X6_portState : GoodIn wsX6_port (va_wsS RX6 117 yX6_portState wsX6_portState) := goodIn_app (goodIn_of _ (by decide +kernel)) ggX6_port_X6_portState
theorem dX6_port_0 : decode cX6_port 0 = .ok (.aload_n 0, 1) := by decide +kernel
theorem dX6_port_1 : decode cX6_port 1 = .ok (.iload_n 1, 1) := by decide +kernel
theorem dX6_port_2 : decode cX6_port 2 = .ok (.invokevirtual 114, 3) := by decide +kernel
theorem dX6_port_5 : decode cX6_port 5 = .ok (.ifCond .eq 12, 3) := by decide +kernel
theorem dX6_port_8 : decode cX6_port 8 = .ok (.iload_n 2, 1) := by decide +kernel
theorem dX6_port_9 : decode cX6_port 9 = .ok (.iconst 0, 1) := by decide +kernel
theorem dX6_port_10 : decode cX6_port 10 = .ok (.iconst 1, 1) := by decide +kernel
theorem dX6_port_11 : decode cX6_port 11 = .ok (.invokestatic 48, 3) := by decide +kernel
theorem dX6_port_14 : decode cX6_port 14 = .ok (.ifCond .ne 5, 3) := by decide +kernel
theorem dX6_port_17 : decode cX6_port 17 = .ok (.iconst (-1), 1) := by decide +kernel
theorem dX6_port_18 : decode cX6_port 18 = .ok (.ireturn, 1) := by decide +kernel
theorem dX6_port_19 : decode cX6_port 19 = .ok (.aload_n 0, 1) := by decide +kernel
theorem dX6_port_20 : decode cX6_port 20 = .ok (.getfield 7, 3) := by decide +kernel
theorem dX6_port_23 : decode cX6_port 23 = .ok (.iload_n 1, 1) := by decide +kernel
theorem dX6_port_24 : decode cX6_port 24 = .ok (.invokestatic 117, 3) := by decide +kernel
theorem dX6_port_27 : decode cX6_port 27 = .ok (.istore_n 3, 1) := by decide +kernel
theorem dX6_port_28 : decode cX6_port 28 = .ok (.iload_n 2, 1) := by decide +kernel
theorem dX6_port_29 : decode cX6_port 29 = .ok (.ifCond .ne 9, 3) := by decide +kernel
theorem dX6_port_32 : decode cX6_port 32 = .ok (.iload_n 3, 1) := by decide +kernel
theorem dX6_port_33 : decode cX6_port 33 = .ok (.iconst 4, 1) := by decide +kernel
theorem dX6_port_34 : decode cX6_port 34 = .ok (.idiv, 1) := by decide +kernel
theorem dX6_port_35 : decode cX6_port 35 = .ok (.goto 6, 3) := by decide +kernel
theorem dX6_port_38 : decode cX6_port 38 = .ok (.iload_n 3, 1) := by decide +kernel
theorem dX6_port_39 : decode cX6_port 39 = .ok (.iconst 4, 1) := by decide +kernel
theorem dX6_port_40 : decode cX6_port 40 = .ok (.irem, 1) := by decide +kernel
theorem dX6_port_41 : decode cX6_port 41 = .ok (.ireturn, 1) := by decide +kernel
theorem dX6_onward_0 : decode cX6_onward 0 = .ok (.aload_n 0, 1) := by decide +kernel
theorem dX6_onward_1 : decode cX6_onward 1 = .ok (.iconst 0, 1) := by decide +kernel
theorem dX6_onward_2 : decode cX6_onward 2 = .ok (.iaload, 1) := by decide +kernel
theorem dX6_onward_3 : decode cX6_onward 3 = .ok (.istore_n 3, 1) := by decide +kernel
theorem dX6_onward_4 : decode cX6_onward 4 = .ok (.aload_n 0, 1) := by decide +kernel
theorem dX6_onward_5 : decode cX6_onward 5 = .ok (.iconst 1, 1) := by decide +kernel
theorem dX6_onward_6 : decode cX6_onward 6 = .ok (.iaload, 1) := by decide +kernel
theorem dX6_onward_7 : decode cX6_onward 7 = .ok (.istore 4, 2) := by decide +kernel
theorem dX6_onward_9 : decode cX6_onward 9 = .ok (.iload_n 1, 1) := by decide +kernel
theorem dX6_onward_10 : decode cX6_onward 10 = .ok (.iload_n 3, 1) := by decide +kernel
theorem dX6_onward_11 : decode cX6_onward 11 = .ok (.irem, 1) := by decide +kernel
theorem dX6_onward_12 : decode cX6_onward 12 = .ok (.iload_n 2, 1) := by decide +kernel
theorem dX6_onward_13 : decode cX6_onward 13 = .ok (.iconst 1, 1) := by decide +kernel
theorem dX6_onward_14 : decode cX6_onward 14 = .ok (.if_icmp .ne 7, 3) := by decide +kernel
theorem dX6_onward_17 : decode cX6_onward 17 = .ok (.iconst 1, 1) := by decide +kernel
theorem dX6_onward_18 : decode cX6_onward 18 = .ok (.goto 13, 3) := by decide +kernel
theorem dX6_onward_21 : decode cX6_onward 21 = .ok (.iload_n 2, 1) := by decide +kernel
theorem dX6_onward_22 : decode cX6_onward 22 = .ok (.iconst 3, 1) := by decide +kernel
theorem dX6_onward_23 : decode cX6_onward 23 = .ok (.if_icmp .ne 7, 3) := by decide +kernel
theorem dX6_onward_26 : decode cX6_onward 26 = .ok (.iconst (-1), 1) := by decide +kernel
theorem dX6_onward_27 : decode cX6_onward 27 = .ok (.goto 4, 3) := by decide +kernel
theorem dX6_onward_30 : decode cX6_onward 30 = .ok (.iconst 0, 1) := by decide +kernel
theorem dX6_onward_31 : decode cX6_onward 31 = .ok (.iadd, 1) := by decide +kernel
theorem dX6_onward_32 : decode cX6_onward 32 = .ok (.istore 5, 2) := by decide +kernel
theorem dX6_onward_34 : decode cX6_onward 34 = .ok (.iload_n 1, 1) := by decide +kernel
theorem dX6_onward_35 : decode cX6_onward 35 = .ok (.iload_n 3, 1) := by decide +kernel
theorem dX6_onward_36 : decode cX6_onward 36 = .ok (.idiv, 1) := by decide +kernel
theorem dX6_onward_37 : decode cX6_onward 37 = .ok (.iload_n 2, 1) := by decide +kernel
theorem dX6_onward_38 : decode cX6_onward 38 = .ok (.iconst 2, 1) := by decide +kernel
theorem dX6_onward_39 : decode cX6_onward 39 = .ok (.if_icmp .ne 7, 3) := by decide +kernel
theorem dX6_onward_42 : decode cX6_onward 42 = .ok (.iconst 1, 1) := by decide +kernel
theorem dX6_onward_43 : decode cX6_onward 43 = .ok (.goto 12, 3) := by decide +kernel
theorem dX6_onward_46 : decode cX6_onward 46 = .ok (.iload_n 2, 1) := by decide +kernel
theorem dX6_onward_47 : decode cX6_onward 47 = .ok (.ifCond .ne 7, 3) := by decide +kernel
theorem dX6_onward_50 : decode cX6_onward 50 = .ok (.iconst (-1), 1) := by decide +kernel
theorem dX6_onward_51 : decode cX6_onward 51 = .ok (.goto 4, 3) := by decide +kernel
theorem dX6_onward_54 : decode cX6_onward 54 = .ok (.iconst 0, 1) := by decide +kernel
theorem dX6_onward_55 : decode cX6_onward 55 = .ok (.iadd, 1) := by decide +kernel
theorem dX6_onward_56 : decode cX6_onward 56 = .ok (.istore 6, 2) := by decide +kernel
theorem dX6_onward_58 : decode cX6_onward 58 = .ok (.iload 6, 2) := by decide +kernel
theorem dX6_onward_60 : decode cX6_onward 60 = .ok (.ifCond .ge 9, 3) := by decide +kernel
theorem dX6_onward_63 : decode cX6_onward 63 = .ok (.bipush (-2), 2) := by decide +kernel
theorem dX6_onward_65 : decode cX6_onward 65 = .ok (.iload 5, 2) := by decide +kernel
theorem dX6_onward_67 : decode cX6_onward 67 = .ok (.isub, 1) := by decide +kernel
theorem dX6_onward_68 : decode cX6_onward 68 = .ok (.ireturn, 1) := by decide +kernel
theorem dX6_onward_69 : decode cX6_onward 69 = .ok (.iload 5, 2) := by decide +kernel
theorem dX6_onward_71 : decode cX6_onward 71 = .ok (.iload_n 3, 1) := by decide +kernel
theorem dX6_onward_72 : decode cX6_onward 72 = .ok (.if_icmp .ne 11, 3) := by decide +kernel
theorem dX6_onward_75 : decode cX6_onward 75 = .ok (.bipush (-2), 2) := by decide +kernel
theorem dX6_onward_77 : decode cX6_onward 77 = .ok (.iload_n 3, 1) := by decide +kernel
theorem dX6_onward_78 : decode cX6_onward 78 = .ok (.isub, 1) := by decide +kernel
theorem dX6_onward_79 : decode cX6_onward 79 = .ok (.iload 6, 2) := by decide +kernel
theorem dX6_onward_81 : decode cX6_onward 81 = .ok (.isub, 1) := by decide +kernel
theorem dX6_onward_82 : decode cX6_onward 82 = .ok (.ireturn, 1) := by decide +kernel
theorem dX6_onward_83 : decode cX6_onward 83 = .ok (.iload 6, 2) := by decide +kernel
theorem dX6_onward_85 : decode cX6_onward 85 = .ok (.iload 4, 2) := by decide +kernel
theorem dX6_onward_87 : decode cX6_onward 87 = .ok (.if_icmp .ne 14, 3) := by decide +kernel
theorem dX6_onward_90 : decode cX6_onward 90 = .ok (.bipush (-2), 2) := by decide +kernel
theorem dX6_onward_92 : decode cX6_onward 92 = .ok (.iload_n 3, 1) := by decide +kernel
theorem dX6_onward_93 : decode cX6_onward 93 = .ok (.isub, 1) := by decide +kernel
theorem dX6_onward_94 : decode cX6_onward 94 = .ok (.iload 4, 2) := by decide +kernel
theorem dX6_onward_96 : decode cX6_onward 96 = .ok (.isub, 1) := by decide +kernel
theorem dX6_onward_97 : decode cX6_onward 97 = .ok (.iload 5, 2) := by decide +kernel
theorem dX6_onward_99 : decode cX6_onward 99 = .ok (.isub, 1) := by decide +kernel
theorem dX6_onward_100 : decode cX6_onward 100 = .ok (.ireturn, 1) := by decide +kernel
theorem dX6_onward_101 : decode cX6_onward 101 = .ok (.iload 5, 2) := by decide +kernel
theorem dX6_onward_103 : decode cX6_onward 103 = .ok (.ifCond .ge 18, 3) := by decide +kernel
theorem dX6_onward_106 : decode cX6_onward 106 = .ok (.bipush (-2), 2) := by decide +kernel
theorem dX6_onward_108 : decode cX6_onward 108 = .ok (.iconst 2, 1) := by decide +kernel
theorem dX6_onward_109 : decode cX6_onward 109 = .ok (.iload_n 3, 1) := by decide +kernel
theorem dX6_onward_110 : decode cX6_onward 110 = .ok (.imul, 1) := by decide +kernel
theorem dX6_onward_111 : decode cX6_onward 111 = .ok (.isub, 1) := by decide +kernel
theorem dX6_onward_112 : decode cX6_onward 112 = .ok (.iload 4, 2) := by decide +kernel
theorem dX6_onward_114 : decode cX6_onward 114 = .ok (.isub, 1) := by decide +kernel
theorem dX6_onward_115 : decode cX6_onward 115 = .ok (.iload 6, 2) := by decide +kernel
theorem dX6_onward_117 : decode cX6_onward 117 = .ok (.isub, 1) := by decide +kernel
theorem dX6_onward_118 : decode cX6_onward 118 = .ok (.goto 14, 3) := by decide +kernel
theorem dX6_onward_121 : decode cX6_onward 121 = .ok (.iconst 4, 1) := by decide +kernel
theorem dX6_onward_122 : decode cX6_onward 122 = .ok (.iload_n 3, 1) := by decide +kernel
theorem dX6_onward_123 : decode cX6_onward 123 = .ok (.iload 6, 2) := by decide +kernel
theorem dX6_onward_125 : decode cX6_onward 125 = .ok (.imul, 1) := by decide +kernel
theorem dX6_onward_126 : decode cX6_onward 126 = .ok (.iload 5, 2) := by decide +kernel
theorem dX6_onward_128 : decode cX6_onward 128 = .ok (.iadd, 1) := by decide +kernel
theorem dX6_onward_129 : decode cX6_onward 129 = .ok (.imul, 1) := by decide +kernel
theorem dX6_onward_130 : decode cX6_onward 130 = .ok (.iload_n 2, 1) := by decide +kernel
theorem dX6_onward_131 : decode cX6_onward 131 = .ok (.iadd, 1) := by decide +kernel
theorem dX6_onward_132 : decode cX6_onward 132 = .ok (.ireturn, 1) := by decide +kernel
theorem dX6_turned_0 : decode cX6_turned 0 = .ok (.iload_n 0, 1) := by decide +kernel
theorem dX6_turned_1 : decode cX6_turned 1 = .ok (.iconst 1, 1) := by decide +kernel
theorem dX6_turned_2 : decode cX6_turned 2 = .ok (.if_icmp .eq 8, 3) := by decide +kernel
theorem dX6_turned_5 : decode cX6_turned 5 = .ok (.iload_n 0, 1) := by decide +kernel
theorem dX6_turned_6 : decode cX6_turned 6 = .ok (.iconst 3, 1) := by decide +kernel
theorem dX6_turned_7 : decode cX6_turned 7 = .ok (.if_icmp .ne 9, 3) := by decide +kernel
theorem dX6_turned_10 : decode cX6_turned 10 = .ok (.iload_n 1, 1) := by decide +kernel
theorem dX6_turned_11 : decode cX6_turned 11 = .ok (.iconst 1, 1) := by decide +kernel
theorem dX6_turned_12 : decode cX6_turned 12 = .ok (.ixor, 1) := by decide +kernel
theorem dX6_turned_13 : decode cX6_turned 13 = .ok (.goto 6, 3) := by decide +kernel
theorem dX6_turned_16 : decode cX6_turned 16 = .ok (.iconst 3, 1) := by decide +kernel
theorem dX6_turned_17 : decode cX6_turned 17 = .ok (.iload_n 1, 1) := by decide +kernel
theorem dX6_turned_18 : decode cX6_turned 18 = .ok (.isub, 1) := by decide +kernel
theorem dX6_turned_19 : decode cX6_turned 19 = .ok (.ireturn, 1) := by decide +kernel
set_option maxRecDepth 20000 in
theorem ggX6_waysOf_X6_isHalf : GoodIn wsX6_waysOf wsX6_isHalf := goodIn_r _ [4, 5, 6, 3, 7] (by decide +kernel) (by decide +kernel)
set_option maxRecDepth 20000 in
theorem gX6_waysOf_X6_isHalf : GoodIn wsX6_waysOf (va_wsS RX6 56 yX6_isHalf wsX6_isHalf) := goodIn_app (goodIn_of _ (by decide +kernel)) ggX6_waysOf_X6_isHalf
theorem dX6_waysOf_0 : decode cX6_waysOf 0 = .ok (.aload_n 0, 1) := by decide +kernel
theorem dX6_waysOf_1 : decode cX6_waysOf 1 = .ok (.iconst 2, 1) := by decide +kernel
theorem dX6_waysOf_2 : decode cX6_waysOf 2 = .ok (.iload_n 1, 1) := by decide +kernel
theorem dX6_waysOf_3 : decode cX6_waysOf 3 = .ok (.iconst 4, 1) := by decide +kernel
theorem dX6_waysOf_4 : decode cX6_waysOf 4 = .ok (.idiv, 1) := by decide +kernel
theorem dX6_waysOf_5 : decode cX6_waysOf 5 = .ok (.iadd, 1) := by decide +kernel
theorem dX6_waysOf_6 : decode cX6_waysOf 6 = .ok (.iaload, 1) := by decide +kernel
theorem dX6_waysOf_7 : decode cX6_waysOf 7 = .ok (.istore_n 2, 1) := by decide +kernel
theorem dX6_waysOf_8 : decode cX6_waysOf 8 = .ok (.iload_n 2, 1) := by decide +kernel
theorem dX6_waysOf_9 : decode cX6_waysOf 9 = .ok (.invokestatic 56, 3) := by decide +kernel
theorem dX6_waysOf_12 : decode cX6_waysOf 12 = .ok (.ifCond .eq 7, 3) := by decide +kernel
theorem dX6_waysOf_15 : decode cX6_waysOf 15 = .ok (.iconst 2, 1) := by decide +kernel
theorem dX6_waysOf_16 : decode cX6_waysOf 16 = .ok (.goto 19, 3) := by decide +kernel
theorem dX6_waysOf_19 : decode cX6_waysOf 19 = .ok (.iload_n 2, 1) := by decide +kernel
theorem dX6_waysOf_20 : decode cX6_waysOf 20 = .ok (.iconst 5, 1) := by decide +kernel
theorem dX6_waysOf_21 : decode cX6_waysOf 21 = .ok (.if_icmp .eq 9, 3) := by decide +kernel
theorem dX6_waysOf_24 : decode cX6_waysOf 24 = .ok (.iload_n 2, 1) := by decide +kernel
theorem dX6_waysOf_25 : decode cX6_waysOf 25 = .ok (.bipush 7, 2) := by decide +kernel
theorem dX6_waysOf_27 : decode cX6_waysOf 27 = .ok (.if_icmp .ne 7, 3) := by decide +kernel
theorem dX6_waysOf_30 : decode cX6_waysOf 30 = .ok (.iconst 0, 1) := by decide +kernel
theorem dX6_waysOf_31 : decode cX6_waysOf 31 = .ok (.goto 4, 3) := by decide +kernel
theorem dX6_waysOf_34 : decode cX6_waysOf 34 = .ok (.iconst 1, 1) := by decide +kernel
theorem dX6_waysOf_35 : decode cX6_waysOf 35 = .ok (.ireturn, 1) := by decide +kernel
set_option maxRecDepth 20000 in
theorem ggX6_goes_X6_in : GoodIn wsX6_goes wsX6_in := goodIn_r _ [4] (by decide +kernel) (by decide +kernel)
set_option maxRecDepth 20000 in
theorem gX6_goes_X6_in : GoodIn wsX6_goes (va_wsS RX6 48 yX6_in wsX6_in) := goodIn_app (goodIn_of _ (by decide +kernel)) ggX6_goes_X6_in
set_option maxRecDepth 20000 in
theorem ggX6_goes_X6_isHalf : GoodIn wsX6_goes wsX6_isHalf := goodIn_r _ [7, 1, 2, 3, 4] (by decide +kernel) (by decide +kernel)
set_option maxRecDepth 20000 in
theorem gX6_goes_X6_isHalf : GoodIn wsX6_goes (va_wsS RX6 56 yX6_isHalf wsX6_isHalf) := goodIn_app (goodIn_of _ (by decide +kernel)) ggX6_goes_X6_isHalf
set_option maxRecDepth 20000 in
theorem ggX6_goes_X6_turned : GoodIn wsX6_goes wsX6_turned := goodIn_r _ [10] (by decide +kernel) (by decide +kernel)
set_option maxRecDepth 20000 in
theorem gX6_goes_X6_turned : GoodIn wsX6_goes (va_wsS RX6 120 yX6_turned wsX6_turned) := goodIn_app (goodIn_of _ (by decide +kernel)) ggX6_goes_X6_turned
set_option maxRecDepth 20000 in
theorem ggX6_goes_X6_onward : GoodIn wsX6_goes wsX6_onward := goodIn_r _ [13] (by decide +kernel) (by decide +kernel)
set_option maxRecDepth 20000 in
theorem gX6_goes_X6_onward : GoodIn wsX6_goes (va_wsS RX6 124 yX6_onward wsX6_onward) := goodIn_app (goodIn_of _ (by decide +kernel)) ggX6_goes_X6_onward
theorem dX6_goes_0 : decode cX6_goes 0 = .ok (.iload_n 1, 1) := by decide +kernel
theorem dX6_goes_1 : decode cX6_goes 1 = .ok (.iconst 4, 1) := by decide +kernel
theorem dX6_goes_2 : decode cX6_goes 2 = .ok (.idiv, 1) := by decide +kernel
theorem dX6_goes_3 : decode cX6_goes 3 = .ok (.istore_n 3, 1) := by decide +kernel
theorem dX6_goes_4 : decode cX6_goes 4 = .ok (.iload_n 1, 1) := by decide +kernel
theorem dX6_goes_5 : decode cX6_goes 5 = .ok (.iconst 4, 1) := by decide +kernel
theorem dX6_goes_6 : decode cX6_goes 6 = .ok (.irem, 1) := by decide +kernel
theorem dX6_goes_7 : decode cX6_goes 7 = .ok (.istore 4, 2) := by decide +kernel
theorem dX6_goes_9 : decode cX6_goes 9 = .ok (.aload_n 0, 1) := by decide +kernel
theorem dX6_goes_10 : decode cX6_goes 10 = .ok (.iconst 2, 1) := by decide +kernel
theorem dX6_goes_11 : decode cX6_goes 11 = .ok (.iload_n 3, 1) := by decide +kernel
theorem dX6_goes_12 : decode cX6_goes 12 = .ok (.iadd, 1) := by decide +kernel
theorem dX6_goes_13 : decode cX6_goes 13 = .ok (.iaload, 1) := by decide +kernel
theorem dX6_goes_14 : decode cX6_goes 14 = .ok (.istore 5, 2) := by decide +kernel
theorem dX6_goes_16 : decode cX6_goes 16 = .ok (.iload 5, 2) := by decide +kernel
theorem dX6_goes_18 : decode cX6_goes 18 = .ok (.iconst 1, 1) := by decide +kernel
theorem dX6_goes_19 : decode cX6_goes 19 = .ok (.iconst 2, 1) := by decide +kernel
theorem dX6_goes_20 : decode cX6_goes 20 = .ok (.invokestatic 48, 3) := by decide +kernel
theorem dX6_goes_23 : decode cX6_goes 23 = .ok (.ifCond .ne 16, 3) := by decide +kernel
theorem dX6_goes_26 : decode cX6_goes 26 = .ok (.iload 5, 2) := by decide +kernel
theorem dX6_goes_28 : decode cX6_goes 28 = .ok (.invokestatic 56, 3) := by decide +kernel
theorem dX6_goes_31 : decode cX6_goes 31 = .ok (.ifCond .eq 12, 3) := by decide +kernel
theorem dX6_goes_34 : decode cX6_goes 34 = .ok (.iload_n 2, 1) := by decide +kernel
theorem dX6_goes_35 : decode cX6_goes 35 = .ok (.iconst 1, 1) := by decide +kernel
theorem dX6_goes_36 : decode cX6_goes 36 = .ok (.if_icmp .ne 7, 3) := by decide +kernel
theorem dX6_goes_39 : decode cX6_goes 39 = .ok (.iconst 1, 1) := by decide +kernel
theorem dX6_goes_40 : decode cX6_goes 40 = .ok (.goto 4, 3) := by decide +kernel
theorem dX6_goes_43 : decode cX6_goes 43 = .ok (.iconst 0, 1) := by decide +kernel
theorem dX6_goes_44 : decode cX6_goes 44 = .ok (.istore 6, 2) := by decide +kernel
theorem dX6_goes_46 : decode cX6_goes 46 = .ok (.aload_n 0, 1) := by decide +kernel
theorem dX6_goes_47 : decode cX6_goes 47 = .ok (.iload_n 3, 1) := by decide +kernel
theorem dX6_goes_48 : decode cX6_goes 48 = .ok (.iload 6, 2) := by decide +kernel
theorem dX6_goes_50 : decode cX6_goes 50 = .ok (.ifCond .eq 13, 3) := by decide +kernel
theorem dX6_goes_53 : decode cX6_goes 53 = .ok (.iload 5, 2) := by decide +kernel
theorem dX6_goes_55 : decode cX6_goes 55 = .ok (.iload 4, 2) := by decide +kernel
theorem dX6_goes_57 : decode cX6_goes 57 = .ok (.invokestatic 120, 3) := by decide +kernel
theorem dX6_goes_60 : decode cX6_goes 60 = .ok (.goto 5, 3) := by decide +kernel
theorem dX6_goes_63 : decode cX6_goes 63 = .ok (.iload 4, 2) := by decide +kernel
theorem dX6_goes_65 : decode cX6_goes 65 = .ok (.invokestatic 124, 3) := by decide +kernel
theorem dX6_goes_68 : decode cX6_goes 68 = .ok (.ireturn, 1) := by decide +kernel
set_option maxRecDepth 20000 in
theorem ggX6_follows_X6_waysOf : GoodIn wsX6_follows wsX6_waysOf := goodIn_r _ [4, 5, 6, 3, 7, 8, 9, 10] (by decide +kernel) (by decide +kernel)
set_option maxRecDepth 20000 in
theorem gX6_follows_X6_waysOf : GoodIn wsX6_follows (va_wsS RX6 128 yX6_waysOf wsX6_waysOf) := goodIn_app (goodIn_of _ (by decide +kernel)) ggX6_follows_X6_waysOf
set_option maxRecDepth 20000 in
theorem ggX6_follows_X6_goes : GoodIn wsX6_follows wsX6_goes := goodIn_r _ [13, 8, 9, 3, 10, 5, 6, 7, 14, 15, 16, 17, 18, 19] (by decide +kernel) (by decide +kernel)
set_option maxRecDepth 20000 in
theorem gX6_follows_X6_goes : GoodIn wsX6_follows (va_wsS RX6 131 yX6_goes wsX6_goes) := goodIn_app (goodIn_of _ (by decide +kernel)) ggX6_follows_X6_goes
theorem dX6_follows_0 : decode cX6_follows 0 = .ok (.iload_n 1, 1) := by decide +kernel
theorem dX6_follows_1 : decode cX6_follows 1 = .ok (.istore_n 2, 1) := by decide +kernel
theorem dX6_follows_2 : decode cX6_follows 2 = .ok (.iconst 0, 1) := by decide +kernel
theorem dX6_follows_3 : decode cX6_follows 3 = .ok (.istore_n 3, 1) := by decide +kernel
theorem dX6_follows_4 : decode cX6_follows 4 = .ok (.iload_n 3, 1) := by decide +kernel
theorem dX6_follows_5 : decode cX6_follows 5 = .ok (.bipush 100, 2) := by decide +kernel
theorem dX6_follows_7 : decode cX6_follows 7 = .ok (.if_icmp .ge 41, 3) := by decide +kernel
theorem dX6_follows_10 : decode cX6_follows 10 = .ok (.iload_n 2, 1) := by decide +kernel
theorem dX6_follows_11 : decode cX6_follows 11 = .ok (.ifCond .lt 12, 3) := by decide +kernel
theorem dX6_follows_14 : decode cX6_follows 14 = .ok (.aload_n 0, 1) := by decide +kernel
theorem dX6_follows_15 : decode cX6_follows 15 = .ok (.iload_n 2, 1) := by decide +kernel
theorem dX6_follows_16 : decode cX6_follows 16 = .ok (.invokestatic 128, 3) := by decide +kernel
theorem dX6_follows_19 : decode cX6_follows 19 = .ok (.iconst 2, 1) := by decide +kernel
theorem dX6_follows_20 : decode cX6_follows 20 = .ok (.if_icmp .ne 5, 3) := by decide +kernel
theorem dX6_follows_23 : decode cX6_follows 23 = .ok (.iload_n 2, 1) := by decide +kernel
theorem dX6_follows_24 : decode cX6_follows 24 = .ok (.ireturn, 1) := by decide +kernel
theorem dX6_follows_25 : decode cX6_follows 25 = .ok (.aload_n 0, 1) := by decide +kernel
theorem dX6_follows_26 : decode cX6_follows 26 = .ok (.iload_n 2, 1) := by decide +kernel
theorem dX6_follows_27 : decode cX6_follows 27 = .ok (.invokestatic 128, 3) := by decide +kernel
theorem dX6_follows_30 : decode cX6_follows 30 = .ok (.ifCond .ne 5, 3) := by decide +kernel
theorem dX6_follows_33 : decode cX6_follows 33 = .ok (.iconst (-1), 1) := by decide +kernel
theorem dX6_follows_34 : decode cX6_follows 34 = .ok (.ireturn, 1) := by decide +kernel
theorem dX6_follows_35 : decode cX6_follows 35 = .ok (.aload_n 0, 1) := by decide +kernel
theorem dX6_follows_36 : decode cX6_follows 36 = .ok (.iload_n 2, 1) := by decide +kernel
theorem dX6_follows_37 : decode cX6_follows 37 = .ok (.iconst 0, 1) := by decide +kernel
theorem dX6_follows_38 : decode cX6_follows 38 = .ok (.invokestatic 131, 3) := by decide +kernel
theorem dX6_follows_41 : decode cX6_follows 41 = .ok (.istore_n 2, 1) := by decide +kernel
theorem dX6_follows_42 : decode cX6_follows 42 = .ok (.iinc 3 1, 3) := by decide +kernel
theorem dX6_follows_45 : decode cX6_follows 45 = .ok (.goto (-41), 3) := by decide +kernel
theorem dX6_follows_48 : decode cX6_follows 48 = .ok (.bipush (-100), 2) := by decide +kernel
theorem dX6_follows_50 : decode cX6_follows 50 = .ok (.ireturn, 1) := by decide +kernel
theorem dX6_isAsked_0 : decode cX6_isAsked 0 = .ok (.iload_n 0, 1) := by decide +kernel
theorem dX6_isAsked_1 : decode cX6_isAsked 1 = .ok (.ifCond .ge 9, 3) := by decide +kernel
theorem dX6_isAsked_4 : decode cX6_isAsked 4 = .ok (.iload_n 0, 1) := by decide +kernel
theorem dX6_isAsked_5 : decode cX6_isAsked 5 = .ok (.bipush (-100), 2) := by decide +kernel
theorem dX6_isAsked_7 : decode cX6_isAsked 7 = .ok (.if_icmp .ne 5, 3) := by decide +kernel
theorem dX6_isAsked_10 : decode cX6_isAsked 10 = .ok (.iconst 0, 1) := by decide +kernel
theorem dX6_isAsked_11 : decode cX6_isAsked 11 = .ok (.ireturn, 1) := by decide +kernel
theorem dX6_isAsked_12 : decode cX6_isAsked 12 = .ok (.iload_n 1, 1) := by decide +kernel
theorem dX6_isAsked_13 : decode cX6_isAsked 13 = .ok (.bipush (-2), 2) := by decide +kernel
theorem dX6_isAsked_15 : decode cX6_isAsked 15 = .ok (.if_icmp .eq 24, 3) := by decide +kernel
theorem dX6_isAsked_18 : decode cX6_isAsked 18 = .ok (.iload_n 1, 1) := by decide +kernel
theorem dX6_isAsked_19 : decode cX6_isAsked 19 = .ok (.iconst (-1), 1) := by decide +kernel
theorem dX6_isAsked_20 : decode cX6_isAsked 20 = .ok (.if_icmp .ne 11, 3) := by decide +kernel
theorem dX6_isAsked_23 : decode cX6_isAsked 23 = .ok (.iload_n 0, 1) := by decide +kernel
theorem dX6_isAsked_24 : decode cX6_isAsked 24 = .ok (.iconst (-1), 1) := by decide +kernel
theorem dX6_isAsked_25 : decode cX6_isAsked 25 = .ok (.if_icmp .ne 18, 3) := by decide +kernel
theorem dX6_isAsked_28 : decode cX6_isAsked 28 = .ok (.goto 11, 3) := by decide +kernel
theorem dX6_isAsked_31 : decode cX6_isAsked 31 = .ok (.iload_n 0, 1) := by decide +kernel
theorem dX6_isAsked_32 : decode cX6_isAsked 32 = .ok (.bipush (-2), 2) := by decide +kernel
theorem dX6_isAsked_34 : decode cX6_isAsked 34 = .ok (.iload_n 1, 1) := by decide +kernel
theorem dX6_isAsked_35 : decode cX6_isAsked 35 = .ok (.isub, 1) := by decide +kernel
theorem dX6_isAsked_36 : decode cX6_isAsked 36 = .ok (.if_icmp .ne 7, 3) := by decide +kernel
theorem dX6_isAsked_39 : decode cX6_isAsked 39 = .ok (.iconst 1, 1) := by decide +kernel
theorem dX6_isAsked_40 : decode cX6_isAsked 40 = .ok (.goto 4, 3) := by decide +kernel
theorem dX6_isAsked_43 : decode cX6_isAsked 43 = .ok (.iconst 0, 1) := by decide +kernel
theorem dX6_isAsked_44 : decode cX6_isAsked 44 = .ok (.ireturn, 1) := by decide +kernel
set_option maxRecDepth 20000 in
theorem ggX6_gathers_X6_goes : GoodIn wsX6_gathers wsX6_goes := goodIn_r _ [7, 8, 9, 6, 10, 11, 12, 13, 14, 15, 16, 17, 18, 19] (by decide +kernel) (by decide +kernel)
set_option maxRecDepth 20000 in
theorem gX6_gathers_X6_goes : GoodIn wsX6_gathers (va_wsS RX6 131 yX6_goes wsX6_goes) := goodIn_app (goodIn_of _ (by decide +kernel)) ggX6_gathers_X6_goes
set_option maxRecDepth 20000 in
theorem ggX6_gathers_X6_follows : GoodIn wsX6_gathers wsX6_follows := goodIn_r _ [22, 23, 24, 6, 25, 11, 12, 13, 8, 9, 10, 4, 5, 7, 14, 15, 16, 17, 18, 19] (by decide +kernel) (by decide +kernel)
set_option maxRecDepth 20000 in
theorem gX6_gathers_X6_follows : GoodIn wsX6_gathers (va_wsS RX6 137 yX6_follows wsX6_follows) := goodIn_app (goodIn_of _ (by decide +kernel)) ggX6_gathers_X6_follows
theorem dX6_gathers_0 : decode cX6_gathers 0 = .ok (.aload_n 0, 1) := by decide +kernel
theorem dX6_gathers_1 : decode cX6_gathers 1 = .ok (.iconst 1, 1) := by decide +kernel
theorem dX6_gathers_2 : decode cX6_gathers 2 = .ok (.putfield 134, 3) := by decide +kernel
theorem dX6_gathers_5 : decode cX6_gathers 5 = .ok (.aload_n 0, 1) := by decide +kernel
theorem dX6_gathers_6 : decode cX6_gathers 6 = .ok (.getfield 25, 3) := by decide +kernel
theorem dX6_gathers_9 : decode cX6_gathers 9 = .ok (.iconst 0, 1) := by decide +kernel
theorem dX6_gathers_10 : decode cX6_gathers 10 = .ok (.iload_n 2, 1) := by decide +kernel
theorem dX6_gathers_11 : decode cX6_gathers 11 = .ok (.iastore, 1) := by decide +kernel
theorem dX6_gathers_12 : decode cX6_gathers 12 = .ok (.iconst 0, 1) := by decide +kernel
theorem dX6_gathers_13 : decode cX6_gathers 13 = .ok (.istore_n 3, 1) := by decide +kernel
theorem dX6_gathers_14 : decode cX6_gathers 14 = .ok (.iload_n 3, 1) := by decide +kernel
theorem dX6_gathers_15 : decode cX6_gathers 15 = .ok (.aload_n 0, 1) := by decide +kernel
theorem dX6_gathers_16 : decode cX6_gathers 16 = .ok (.getfield 134, 3) := by decide +kernel
theorem dX6_gathers_19 : decode cX6_gathers 19 = .ok (.if_icmp .ge 135, 3) := by decide +kernel
theorem dX6_gathers_22 : decode cX6_gathers 22 = .ok (.iconst 0, 1) := by decide +kernel
theorem dX6_gathers_23 : decode cX6_gathers 23 = .ok (.istore 4, 2) := by decide +kernel
theorem dX6_gathers_25 : decode cX6_gathers 25 = .ok (.iload 4, 2) := by decide +kernel
theorem dX6_gathers_27 : decode cX6_gathers 27 = .ok (.iconst 2, 1) := by decide +kernel
theorem dX6_gathers_28 : decode cX6_gathers 28 = .ok (.if_icmp .ge 120, 3) := by decide +kernel
theorem dX6_gathers_31 : decode cX6_gathers 31 = .ok (.aload_n 1, 1) := by decide +kernel
theorem dX6_gathers_32 : decode cX6_gathers 32 = .ok (.aload_n 1, 1) := by decide +kernel
theorem dX6_gathers_33 : decode cX6_gathers 33 = .ok (.aload_n 0, 1) := by decide +kernel
theorem dX6_gathers_34 : decode cX6_gathers 34 = .ok (.getfield 25, 3) := by decide +kernel
theorem dX6_gathers_37 : decode cX6_gathers 37 = .ok (.iload_n 3, 1) := by decide +kernel
theorem dX6_gathers_38 : decode cX6_gathers 38 = .ok (.iaload, 1) := by decide +kernel
theorem dX6_gathers_39 : decode cX6_gathers 39 = .ok (.iload 4, 2) := by decide +kernel
theorem dX6_gathers_41 : decode cX6_gathers 41 = .ok (.invokestatic 131, 3) := by decide +kernel
theorem dX6_gathers_44 : decode cX6_gathers 44 = .ok (.invokestatic 137, 3) := by decide +kernel
theorem dX6_gathers_47 : decode cX6_gathers 47 = .ok (.istore 5, 2) := by decide +kernel
theorem dX6_gathers_49 : decode cX6_gathers 49 = .ok (.aload_n 0, 1) := by decide +kernel
theorem dX6_gathers_50 : decode cX6_gathers 50 = .ok (.getfield 28, 3) := by decide +kernel
theorem dX6_gathers_53 : decode cX6_gathers 53 = .ok (.iconst 2, 1) := by decide +kernel
theorem dX6_gathers_54 : decode cX6_gathers 54 = .ok (.iload_n 3, 1) := by decide +kernel
theorem dX6_gathers_55 : decode cX6_gathers 55 = .ok (.imul, 1) := by decide +kernel
theorem dX6_gathers_56 : decode cX6_gathers 56 = .ok (.iload 4, 2) := by decide +kernel
theorem dX6_gathers_58 : decode cX6_gathers 58 = .ok (.iadd, 1) := by decide +kernel
theorem dX6_gathers_59 : decode cX6_gathers 59 = .ok (.iload 5, 2) := by decide +kernel
theorem dX6_gathers_61 : decode cX6_gathers 61 = .ok (.iastore, 1) := by decide +kernel
theorem dX6_gathers_62 : decode cX6_gathers 62 = .ok (.iload 5, 2) := by decide +kernel
theorem dX6_gathers_64 : decode cX6_gathers 64 = .ok (.ifCond .ge 7, 3) := by decide +kernel
theorem dX6_gathers_67 : decode cX6_gathers 67 = .ok (.iconst 1, 1) := by decide +kernel
theorem dX6_gathers_68 : decode cX6_gathers 68 = .ok (.goto 4, 3) := by decide +kernel
theorem dX6_gathers_71 : decode cX6_gathers 71 = .ok (.iconst 0, 1) := by decide +kernel
theorem dX6_gathers_72 : decode cX6_gathers 72 = .ok (.istore 6, 2) := by decide +kernel
theorem dX6_gathers_74 : decode cX6_gathers 74 = .ok (.iconst 0, 1) := by decide +kernel
theorem dX6_gathers_75 : decode cX6_gathers 75 = .ok (.istore 7, 2) := by decide +kernel
theorem dX6_gathers_77 : decode cX6_gathers 77 = .ok (.iload 7, 2) := by decide +kernel
theorem dX6_gathers_79 : decode cX6_gathers 79 = .ok (.aload_n 0, 1) := by decide +kernel
theorem dX6_gathers_80 : decode cX6_gathers 80 = .ok (.getfield 134, 3) := by decide +kernel
theorem dX6_gathers_83 : decode cX6_gathers 83 = .ok (.if_icmp .ge 33, 3) := by decide +kernel
theorem dX6_gathers_86 : decode cX6_gathers 86 = .ok (.iload 6, 2) := by decide +kernel
theorem dX6_gathers_88 : decode cX6_gathers 88 = .ok (.ifCond .ne 15, 3) := by decide +kernel
theorem dX6_gathers_91 : decode cX6_gathers 91 = .ok (.aload_n 0, 1) := by decide +kernel
theorem dX6_gathers_92 : decode cX6_gathers 92 = .ok (.getfield 25, 3) := by decide +kernel
theorem dX6_gathers_95 : decode cX6_gathers 95 = .ok (.iload 7, 2) := by decide +kernel
theorem dX6_gathers_97 : decode cX6_gathers 97 = .ok (.iaload, 1) := by decide +kernel
theorem dX6_gathers_98 : decode cX6_gathers 98 = .ok (.iload 5, 2) := by decide +kernel
theorem dX6_gathers_100 : decode cX6_gathers 100 = .ok (.if_icmp .ne 7, 3) := by decide +kernel
theorem dX6_gathers_103 : decode cX6_gathers 103 = .ok (.iconst 1, 1) := by decide +kernel
theorem dX6_gathers_104 : decode cX6_gathers 104 = .ok (.goto 4, 3) := by decide +kernel
theorem dX6_gathers_107 : decode cX6_gathers 107 = .ok (.iconst 0, 1) := by decide +kernel
theorem dX6_gathers_108 : decode cX6_gathers 108 = .ok (.istore 6, 2) := by decide +kernel
theorem dX6_gathers_110 : decode cX6_gathers 110 = .ok (.iinc 7 1, 3) := by decide +kernel
theorem dX6_gathers_113 : decode cX6_gathers 113 = .ok (.goto (-36), 3) := by decide +kernel
theorem dX6_gathers_116 : decode cX6_gathers 116 = .ok (.iload 6, 2) := by decide +kernel
theorem dX6_gathers_118 : decode cX6_gathers 118 = .ok (.ifCond .ne 24, 3) := by decide +kernel
theorem dX6_gathers_121 : decode cX6_gathers 121 = .ok (.aload_n 0, 1) := by decide +kernel
theorem dX6_gathers_122 : decode cX6_gathers 122 = .ok (.getfield 25, 3) := by decide +kernel
theorem dX6_gathers_125 : decode cX6_gathers 125 = .ok (.aload_n 0, 1) := by decide +kernel
theorem dX6_gathers_126 : decode cX6_gathers 126 = .ok (.getfield 134, 3) := by decide +kernel
theorem dX6_gathers_129 : decode cX6_gathers 129 = .ok (.iload 5, 2) := by decide +kernel
theorem dX6_gathers_131 : decode cX6_gathers 131 = .ok (.iastore, 1) := by decide +kernel
theorem dX6_gathers_132 : decode cX6_gathers 132 = .ok (.aload_n 0, 1) := by decide +kernel
theorem dX6_gathers_133 : decode cX6_gathers 133 = .ok (.dup, 1) := by decide +kernel
theorem dX6_gathers_134 : decode cX6_gathers 134 = .ok (.getfield 134, 3) := by decide +kernel
theorem dX6_gathers_137 : decode cX6_gathers 137 = .ok (.iconst 1, 1) := by decide +kernel
theorem dX6_gathers_138 : decode cX6_gathers 138 = .ok (.iadd, 1) := by decide +kernel
theorem dX6_gathers_139 : decode cX6_gathers 139 = .ok (.putfield 134, 3) := by decide +kernel
theorem dX6_gathers_142 : decode cX6_gathers 142 = .ok (.iinc 4 1, 3) := by decide +kernel
theorem dX6_gathers_145 : decode cX6_gathers 145 = .ok (.goto (-120), 3) := by decide +kernel
theorem dX6_gathers_148 : decode cX6_gathers 148 = .ok (.iinc 3 1, 3) := by decide +kernel
theorem dX6_gathers_151 : decode cX6_gathers 151 = .ok (.goto (-137), 3) := by decide +kernel
theorem dX6_gathers_154 : decode cX6_gathers 154 = .ok (.return_, 1) := by decide +kernel
set_option maxRecDepth 20000 in
theorem ggX6_findsMay_X6_isAsked : GoodIn wsX6_findsMay wsX6_isAsked := goodIn_r _ [9] (by decide +kernel) (by decide +kernel)
set_option maxRecDepth 20000 in
theorem gX6_findsMay_X6_isAsked : GoodIn wsX6_findsMay (va_wsS RX6 140 yX6_isAsked wsX6_isAsked) := goodIn_app (goodIn_of _ (by decide +kernel)) ggX6_findsMay_X6_isAsked
theorem dX6_findsMay_0 : decode cX6_findsMay 0 = .ok (.iconst 0, 1) := by decide +kernel
theorem dX6_findsMay_1 : decode cX6_findsMay 1 = .ok (.istore_n 2, 1) := by decide +kernel
theorem dX6_findsMay_2 : decode cX6_findsMay 2 = .ok (.iload_n 2, 1) := by decide +kernel
theorem dX6_findsMay_3 : decode cX6_findsMay 3 = .ok (.bipush 80, 2) := by decide +kernel
theorem dX6_findsMay_5 : decode cX6_findsMay 5 = .ok (.if_icmp .ge 17, 3) := by decide +kernel
theorem dX6_findsMay_8 : decode cX6_findsMay 8 = .ok (.aload_n 0, 1) := by decide +kernel
theorem dX6_findsMay_9 : decode cX6_findsMay 9 = .ok (.getfield 35, 3) := by decide +kernel
theorem dX6_findsMay_12 : decode cX6_findsMay 12 = .ok (.iload_n 2, 1) := by decide +kernel
theorem dX6_findsMay_13 : decode cX6_findsMay 13 = .ok (.bipush (-4), 2) := by decide +kernel
theorem dX6_findsMay_15 : decode cX6_findsMay 15 = .ok (.iastore, 1) := by decide +kernel
theorem dX6_findsMay_16 : decode cX6_findsMay 16 = .ok (.iinc 2 1, 3) := by decide +kernel
theorem dX6_findsMay_19 : decode cX6_findsMay 19 = .ok (.goto (-17), 3) := by decide +kernel
theorem dX6_findsMay_22 : decode cX6_findsMay 22 = .ok (.iconst 0, 1) := by decide +kernel
theorem dX6_findsMay_23 : decode cX6_findsMay 23 = .ok (.istore_n 2, 1) := by decide +kernel
theorem dX6_findsMay_24 : decode cX6_findsMay 24 = .ok (.iload_n 2, 1) := by decide +kernel
theorem dX6_findsMay_25 : decode cX6_findsMay 25 = .ok (.aload_n 0, 1) := by decide +kernel
theorem dX6_findsMay_26 : decode cX6_findsMay 26 = .ok (.getfield 134, 3) := by decide +kernel
theorem dX6_findsMay_29 : decode cX6_findsMay 29 = .ok (.if_icmp .ge 28, 3) := by decide +kernel
theorem dX6_findsMay_32 : decode cX6_findsMay 32 = .ok (.aload_n 0, 1) := by decide +kernel
theorem dX6_findsMay_33 : decode cX6_findsMay 33 = .ok (.getfield 31, 3) := by decide +kernel
theorem dX6_findsMay_36 : decode cX6_findsMay 36 = .ok (.iload_n 2, 1) := by decide +kernel
theorem dX6_findsMay_37 : decode cX6_findsMay 37 = .ok (.iconst 0, 1) := by decide +kernel
theorem dX6_findsMay_38 : decode cX6_findsMay 38 = .ok (.bastore, 1) := by decide +kernel
theorem dX6_findsMay_39 : decode cX6_findsMay 39 = .ok (.aload_n 0, 1) := by decide +kernel
theorem dX6_findsMay_40 : decode cX6_findsMay 40 = .ok (.getfield 35, 3) := by decide +kernel
theorem dX6_findsMay_43 : decode cX6_findsMay 43 = .ok (.aload_n 0, 1) := by decide +kernel
theorem dX6_findsMay_44 : decode cX6_findsMay 44 = .ok (.getfield 25, 3) := by decide +kernel
theorem dX6_findsMay_47 : decode cX6_findsMay 47 = .ok (.iload_n 2, 1) := by decide +kernel
theorem dX6_findsMay_48 : decode cX6_findsMay 48 = .ok (.iaload, 1) := by decide +kernel
theorem dX6_findsMay_49 : decode cX6_findsMay 49 = .ok (.iload_n 2, 1) := by decide +kernel
theorem dX6_findsMay_50 : decode cX6_findsMay 50 = .ok (.iastore, 1) := by decide +kernel
theorem dX6_findsMay_51 : decode cX6_findsMay 51 = .ok (.iinc 2 1, 3) := by decide +kernel
theorem dX6_findsMay_54 : decode cX6_findsMay 54 = .ok (.goto (-30), 3) := by decide +kernel
theorem dX6_findsMay_57 : decode cX6_findsMay 57 = .ok (.iconst 0, 1) := by decide +kernel
theorem dX6_findsMay_58 : decode cX6_findsMay 58 = .ok (.istore_n 2, 1) := by decide +kernel
theorem dX6_findsMay_59 : decode cX6_findsMay 59 = .ok (.iload_n 2, 1) := by decide +kernel
theorem dX6_findsMay_60 : decode cX6_findsMay 60 = .ok (.aload_n 0, 1) := by decide +kernel
theorem dX6_findsMay_61 : decode cX6_findsMay 61 = .ok (.getfield 134, 3) := by decide +kernel
theorem dX6_findsMay_64 : decode cX6_findsMay 64 = .ok (.if_icmp .ge 102, 3) := by decide +kernel
theorem dX6_findsMay_67 : decode cX6_findsMay 67 = .ok (.iconst 0, 1) := by decide +kernel
theorem dX6_findsMay_68 : decode cX6_findsMay 68 = .ok (.istore_n 3, 1) := by decide +kernel
theorem dX6_findsMay_69 : decode cX6_findsMay 69 = .ok (.iload_n 3, 1) := by decide +kernel
theorem dX6_findsMay_70 : decode cX6_findsMay 70 = .ok (.aload_n 0, 1) := by decide +kernel
theorem dX6_findsMay_71 : decode cX6_findsMay 71 = .ok (.getfield 134, 3) := by decide +kernel
theorem dX6_findsMay_74 : decode cX6_findsMay 74 = .ok (.if_icmp .ge 86, 3) := by decide +kernel
theorem dX6_findsMay_77 : decode cX6_findsMay 77 = .ok (.iconst 0, 1) := by decide +kernel
theorem dX6_findsMay_78 : decode cX6_findsMay 78 = .ok (.istore 4, 2) := by decide +kernel
theorem dX6_findsMay_80 : decode cX6_findsMay 80 = .ok (.iload 4, 2) := by decide +kernel
theorem dX6_findsMay_82 : decode cX6_findsMay 82 = .ok (.iconst 2, 1) := by decide +kernel
theorem dX6_findsMay_83 : decode cX6_findsMay 83 = .ok (.if_icmp .ge 71, 3) := by decide +kernel
theorem dX6_findsMay_86 : decode cX6_findsMay 86 = .ok (.aload_n 0, 1) := by decide +kernel
theorem dX6_findsMay_87 : decode cX6_findsMay 87 = .ok (.getfield 28, 3) := by decide +kernel
theorem dX6_findsMay_90 : decode cX6_findsMay 90 = .ok (.iconst 2, 1) := by decide +kernel
theorem dX6_findsMay_91 : decode cX6_findsMay 91 = .ok (.iload_n 3, 1) := by decide +kernel
theorem dX6_findsMay_92 : decode cX6_findsMay 92 = .ok (.imul, 1) := by decide +kernel
theorem dX6_findsMay_93 : decode cX6_findsMay 93 = .ok (.iload 4, 2) := by decide +kernel
theorem dX6_findsMay_95 : decode cX6_findsMay 95 = .ok (.iadd, 1) := by decide +kernel
theorem dX6_findsMay_96 : decode cX6_findsMay 96 = .ok (.iaload, 1) := by decide +kernel
theorem dX6_findsMay_97 : decode cX6_findsMay 97 = .ok (.istore 5, 2) := by decide +kernel
theorem dX6_findsMay_99 : decode cX6_findsMay 99 = .ok (.aload_n 0, 1) := by decide +kernel
theorem dX6_findsMay_100 : decode cX6_findsMay 100 = .ok (.getfield 31, 3) := by decide +kernel
theorem dX6_findsMay_103 : decode cX6_findsMay 103 = .ok (.iload_n 3, 1) := by decide +kernel
theorem dX6_findsMay_104 : decode cX6_findsMay 104 = .ok (.aload_n 0, 1) := by decide +kernel
theorem dX6_findsMay_105 : decode cX6_findsMay 105 = .ok (.getfield 31, 3) := by decide +kernel
theorem dX6_findsMay_108 : decode cX6_findsMay 108 = .ok (.iload_n 3, 1) := by decide +kernel
theorem dX6_findsMay_109 : decode cX6_findsMay 109 = .ok (.baload, 1) := by decide +kernel
theorem dX6_findsMay_110 : decode cX6_findsMay 110 = .ok (.ifCond .ne 32, 3) := by decide +kernel
theorem dX6_findsMay_113 : decode cX6_findsMay 113 = .ok (.iload 5, 2) := by decide +kernel
theorem dX6_findsMay_115 : decode cX6_findsMay 115 = .ok (.iload_n 1, 1) := by decide +kernel
theorem dX6_findsMay_116 : decode cX6_findsMay 116 = .ok (.invokestatic 140, 3) := by decide +kernel
theorem dX6_findsMay_119 : decode cX6_findsMay 119 = .ok (.ifCond .ne 23, 3) := by decide +kernel
theorem dX6_findsMay_122 : decode cX6_findsMay 122 = .ok (.iload 5, 2) := by decide +kernel
theorem dX6_findsMay_124 : decode cX6_findsMay 124 = .ok (.ifCond .lt 22, 3) := by decide +kernel
theorem dX6_findsMay_127 : decode cX6_findsMay 127 = .ok (.aload_n 0, 1) := by decide +kernel
theorem dX6_findsMay_128 : decode cX6_findsMay 128 = .ok (.getfield 31, 3) := by decide +kernel
theorem dX6_findsMay_131 : decode cX6_findsMay 131 = .ok (.aload_n 0, 1) := by decide +kernel
theorem dX6_findsMay_132 : decode cX6_findsMay 132 = .ok (.getfield 35, 3) := by decide +kernel
theorem dX6_findsMay_135 : decode cX6_findsMay 135 = .ok (.iload 5, 2) := by decide +kernel
theorem dX6_findsMay_137 : decode cX6_findsMay 137 = .ok (.iaload, 1) := by decide +kernel
theorem dX6_findsMay_138 : decode cX6_findsMay 138 = .ok (.baload, 1) := by decide +kernel
theorem dX6_findsMay_139 : decode cX6_findsMay 139 = .ok (.ifCond .eq 7, 3) := by decide +kernel
theorem dX6_findsMay_142 : decode cX6_findsMay 142 = .ok (.iconst 1, 1) := by decide +kernel
theorem dX6_findsMay_143 : decode cX6_findsMay 143 = .ok (.goto 4, 3) := by decide +kernel
theorem dX6_findsMay_146 : decode cX6_findsMay 146 = .ok (.iconst 0, 1) := by decide +kernel
theorem dX6_findsMay_147 : decode cX6_findsMay 147 = .ok (.bastore, 1) := by decide +kernel
theorem dX6_findsMay_148 : decode cX6_findsMay 148 = .ok (.iinc 4 1, 3) := by decide +kernel
theorem dX6_findsMay_151 : decode cX6_findsMay 151 = .ok (.goto (-71), 3) := by decide +kernel
theorem dX6_findsMay_154 : decode cX6_findsMay 154 = .ok (.iinc 3 1, 3) := by decide +kernel
theorem dX6_findsMay_157 : decode cX6_findsMay 157 = .ok (.goto (-88), 3) := by decide +kernel
theorem dX6_findsMay_160 : decode cX6_findsMay 160 = .ok (.iinc 2 1, 3) := by decide +kernel
theorem dX6_findsMay_163 : decode cX6_findsMay 163 = .ok (.goto (-104), 3) := by decide +kernel
theorem dX6_findsMay_166 : decode cX6_findsMay 166 = .ok (.return_, 1) := by decide +kernel
set_option maxRecDepth 20000 in
theorem ggX6_laysRows_X6_isAsked : GoodIn wsX6_laysRows wsX6_isAsked := goodIn_r _ [11] (by decide +kernel) (by decide +kernel)
set_option maxRecDepth 20000 in
theorem gX6_laysRows_X6_isAsked : GoodIn wsX6_laysRows (va_wsS RX6 140 yX6_isAsked wsX6_isAsked) := goodIn_app (goodIn_of _ (by decide +kernel)) ggX6_laysRows_X6_isAsked
theorem dX6_laysRows_0 : decode cX6_laysRows 0 = .ok (.iconst 0, 1) := by decide +kernel
theorem dX6_laysRows_1 : decode cX6_laysRows 1 = .ok (.istore_n 2, 1) := by decide +kernel
theorem dX6_laysRows_2 : decode cX6_laysRows 2 = .ok (.aload_n 0, 1) := by decide +kernel
theorem dX6_laysRows_3 : decode cX6_laysRows 3 = .ok (.getfield 134, 3) := by decide +kernel
theorem dX6_laysRows_6 : decode cX6_laysRows 6 = .ok (.iconst 1, 1) := by decide +kernel
theorem dX6_laysRows_7 : decode cX6_laysRows 7 = .ok (.isub, 1) := by decide +kernel
theorem dX6_laysRows_8 : decode cX6_laysRows 8 = .ok (.istore_n 3, 1) := by decide +kernel
theorem dX6_laysRows_9 : decode cX6_laysRows 9 = .ok (.iload_n 3, 1) := by decide +kernel
theorem dX6_laysRows_10 : decode cX6_laysRows 10 = .ok (.ifCond .lt 52, 3) := by decide +kernel
theorem dX6_laysRows_13 : decode cX6_laysRows 13 = .ok (.aload_n 0, 1) := by decide +kernel
theorem dX6_laysRows_14 : decode cX6_laysRows 14 = .ok (.getfield 35, 3) := by decide +kernel
theorem dX6_laysRows_17 : decode cX6_laysRows 17 = .ok (.aload_n 0, 1) := by decide +kernel
theorem dX6_laysRows_18 : decode cX6_laysRows 18 = .ok (.getfield 25, 3) := by decide +kernel
theorem dX6_laysRows_21 : decode cX6_laysRows 21 = .ok (.iload_n 3, 1) := by decide +kernel
theorem dX6_laysRows_22 : decode cX6_laysRows 22 = .ok (.iaload, 1) := by decide +kernel
theorem dX6_laysRows_23 : decode cX6_laysRows 23 = .ok (.aload_n 0, 1) := by decide +kernel
theorem dX6_laysRows_24 : decode cX6_laysRows 24 = .ok (.getfield 31, 3) := by decide +kernel
theorem dX6_laysRows_27 : decode cX6_laysRows 27 = .ok (.iload_n 3, 1) := by decide +kernel
theorem dX6_laysRows_28 : decode cX6_laysRows 28 = .ok (.baload, 1) := by decide +kernel
theorem dX6_laysRows_29 : decode cX6_laysRows 29 = .ok (.ifCond .eq 7, 3) := by decide +kernel
theorem dX6_laysRows_32 : decode cX6_laysRows 32 = .ok (.iload_n 2, 1) := by decide +kernel
theorem dX6_laysRows_33 : decode cX6_laysRows 33 = .ok (.goto 5, 3) := by decide +kernel
theorem dX6_laysRows_36 : decode cX6_laysRows 36 = .ok (.bipush (-4), 2) := by decide +kernel
theorem dX6_laysRows_38 : decode cX6_laysRows 38 = .ok (.iastore, 1) := by decide +kernel
theorem dX6_laysRows_39 : decode cX6_laysRows 39 = .ok (.iload_n 2, 1) := by decide +kernel
theorem dX6_laysRows_40 : decode cX6_laysRows 40 = .ok (.aload_n 0, 1) := by decide +kernel
theorem dX6_laysRows_41 : decode cX6_laysRows 41 = .ok (.getfield 31, 3) := by decide +kernel
theorem dX6_laysRows_44 : decode cX6_laysRows 44 = .ok (.iload_n 3, 1) := by decide +kernel
theorem dX6_laysRows_45 : decode cX6_laysRows 45 = .ok (.baload, 1) := by decide +kernel
theorem dX6_laysRows_46 : decode cX6_laysRows 46 = .ok (.ifCond .eq 7, 3) := by decide +kernel
theorem dX6_laysRows_49 : decode cX6_laysRows 49 = .ok (.iconst 1, 1) := by decide +kernel
theorem dX6_laysRows_50 : decode cX6_laysRows 50 = .ok (.goto 4, 3) := by decide +kernel
theorem dX6_laysRows_53 : decode cX6_laysRows 53 = .ok (.iconst 0, 1) := by decide +kernel
theorem dX6_laysRows_54 : decode cX6_laysRows 54 = .ok (.iadd, 1) := by decide +kernel
theorem dX6_laysRows_55 : decode cX6_laysRows 55 = .ok (.istore_n 2, 1) := by decide +kernel
theorem dX6_laysRows_56 : decode cX6_laysRows 56 = .ok (.iinc 3 (-1), 3) := by decide +kernel
theorem dX6_laysRows_59 : decode cX6_laysRows 59 = .ok (.goto (-50), 3) := by decide +kernel
theorem dX6_laysRows_62 : decode cX6_laysRows 62 = .ok (.iconst 0, 1) := by decide +kernel
theorem dX6_laysRows_63 : decode cX6_laysRows 63 = .ok (.istore_n 3, 1) := by decide +kernel
theorem dX6_laysRows_64 : decode cX6_laysRows 64 = .ok (.iload_n 3, 1) := by decide +kernel
theorem dX6_laysRows_65 : decode cX6_laysRows 65 = .ok (.sipush 420, 3) := by decide +kernel
theorem dX6_laysRows_68 : decode cX6_laysRows 68 = .ok (.if_icmp .ge 16, 3) := by decide +kernel
theorem dX6_laysRows_71 : decode cX6_laysRows 71 = .ok (.aload_n 0, 1) := by decide +kernel
theorem dX6_laysRows_72 : decode cX6_laysRows 72 = .ok (.getfield 38, 3) := by decide +kernel
theorem dX6_laysRows_75 : decode cX6_laysRows 75 = .ok (.iload_n 3, 1) := by decide +kernel
theorem dX6_laysRows_76 : decode cX6_laysRows 76 = .ok (.lconst 0, 1) := by decide +kernel
theorem dX6_laysRows_77 : decode cX6_laysRows 77 = .ok (.lastore, 1) := by decide +kernel
theorem dX6_laysRows_78 : decode cX6_laysRows 78 = .ok (.iinc 3 1, 3) := by decide +kernel
theorem dX6_laysRows_81 : decode cX6_laysRows 81 = .ok (.goto (-17), 3) := by decide +kernel
theorem dX6_laysRows_84 : decode cX6_laysRows 84 = .ok (.iconst 0, 1) := by decide +kernel
theorem dX6_laysRows_85 : decode cX6_laysRows 85 = .ok (.istore_n 3, 1) := by decide +kernel
theorem dX6_laysRows_86 : decode cX6_laysRows 86 = .ok (.iload_n 3, 1) := by decide +kernel
theorem dX6_laysRows_87 : decode cX6_laysRows 87 = .ok (.aload_n 0, 1) := by decide +kernel
theorem dX6_laysRows_88 : decode cX6_laysRows 88 = .ok (.getfield 134, 3) := by decide +kernel
theorem dX6_laysRows_91 : decode cX6_laysRows 91 = .ok (.if_icmp .ge 148, 3) := by decide +kernel
theorem dX6_laysRows_94 : decode cX6_laysRows 94 = .ok (.aload_n 0, 1) := by decide +kernel
theorem dX6_laysRows_95 : decode cX6_laysRows 95 = .ok (.getfield 31, 3) := by decide +kernel
theorem dX6_laysRows_98 : decode cX6_laysRows 98 = .ok (.iload_n 3, 1) := by decide +kernel
theorem dX6_laysRows_99 : decode cX6_laysRows 99 = .ok (.baload, 1) := by decide +kernel
theorem dX6_laysRows_100 : decode cX6_laysRows 100 = .ok (.ifCond .eq 133, 3) := by decide +kernel
theorem dX6_laysRows_103 : decode cX6_laysRows 103 = .ok (.bipush 21, 2) := by decide +kernel
theorem dX6_laysRows_105 : decode cX6_laysRows 105 = .ok (.aload_n 0, 1) := by decide +kernel
theorem dX6_laysRows_106 : decode cX6_laysRows 106 = .ok (.getfield 35, 3) := by decide +kernel
theorem dX6_laysRows_109 : decode cX6_laysRows 109 = .ok (.aload_n 0, 1) := by decide +kernel
theorem dX6_laysRows_110 : decode cX6_laysRows 110 = .ok (.getfield 25, 3) := by decide +kernel
theorem dX6_laysRows_113 : decode cX6_laysRows 113 = .ok (.iload_n 3, 1) := by decide +kernel
theorem dX6_laysRows_114 : decode cX6_laysRows 114 = .ok (.iaload, 1) := by decide +kernel
theorem dX6_laysRows_115 : decode cX6_laysRows 115 = .ok (.iaload, 1) := by decide +kernel
theorem dX6_laysRows_116 : decode cX6_laysRows 116 = .ok (.imul, 1) := by decide +kernel
theorem dX6_laysRows_117 : decode cX6_laysRows 117 = .ok (.istore 4, 2) := by decide +kernel
theorem dX6_laysRows_119 : decode cX6_laysRows 119 = .ok (.aload_n 0, 1) := by decide +kernel
theorem dX6_laysRows_120 : decode cX6_laysRows 120 = .ok (.getfield 38, 3) := by decide +kernel
theorem dX6_laysRows_123 : decode cX6_laysRows 123 = .ok (.iload 4, 2) := by decide +kernel
theorem dX6_laysRows_125 : decode cX6_laysRows 125 = .ok (.aload_n 0, 1) := by decide +kernel
theorem dX6_laysRows_126 : decode cX6_laysRows 126 = .ok (.getfield 35, 3) := by decide +kernel
theorem dX6_laysRows_129 : decode cX6_laysRows 129 = .ok (.aload_n 0, 1) := by decide +kernel
theorem dX6_laysRows_130 : decode cX6_laysRows 130 = .ok (.getfield 25, 3) := by decide +kernel
theorem dX6_laysRows_133 : decode cX6_laysRows 133 = .ok (.iload_n 3, 1) := by decide +kernel
theorem dX6_laysRows_134 : decode cX6_laysRows 134 = .ok (.iaload, 1) := by decide +kernel
theorem dX6_laysRows_135 : decode cX6_laysRows 135 = .ok (.iaload, 1) := by decide +kernel
theorem dX6_laysRows_136 : decode cX6_laysRows 136 = .ok (.iadd, 1) := by decide +kernel
theorem dX6_laysRows_137 : decode cX6_laysRows 137 = .ok (.dup2, 1) := by decide +kernel
theorem dX6_laysRows_138 : decode cX6_laysRows 138 = .ok (.laload, 1) := by decide +kernel
theorem dX6_laysRows_139 : decode cX6_laysRows 139 = .ok (.ldc2_w 144, 3) := by decide +kernel
theorem dX6_laysRows_142 : decode cX6_laysRows 142 = .ok (.ladd, 1) := by decide +kernel
theorem dX6_laysRows_143 : decode cX6_laysRows 143 = .ok (.lastore, 1) := by decide +kernel
theorem dX6_laysRows_144 : decode cX6_laysRows 144 = .ok (.iconst 0, 1) := by decide +kernel
theorem dX6_laysRows_145 : decode cX6_laysRows 145 = .ok (.istore 5, 2) := by decide +kernel
theorem dX6_laysRows_147 : decode cX6_laysRows 147 = .ok (.iload 5, 2) := by decide +kernel
theorem dX6_laysRows_149 : decode cX6_laysRows 149 = .ok (.iconst 2, 1) := by decide +kernel
theorem dX6_laysRows_150 : decode cX6_laysRows 150 = .ok (.if_icmp .ge 83, 3) := by decide +kernel
theorem dX6_laysRows_153 : decode cX6_laysRows 153 = .ok (.aload_n 0, 1) := by decide +kernel
theorem dX6_laysRows_154 : decode cX6_laysRows 154 = .ok (.getfield 28, 3) := by decide +kernel
theorem dX6_laysRows_157 : decode cX6_laysRows 157 = .ok (.iconst 2, 1) := by decide +kernel
theorem dX6_laysRows_158 : decode cX6_laysRows 158 = .ok (.iload_n 3, 1) := by decide +kernel
theorem dX6_laysRows_159 : decode cX6_laysRows 159 = .ok (.imul, 1) := by decide +kernel
theorem dX6_laysRows_160 : decode cX6_laysRows 160 = .ok (.iload 5, 2) := by decide +kernel
theorem dX6_laysRows_162 : decode cX6_laysRows 162 = .ok (.iadd, 1) := by decide +kernel
theorem dX6_laysRows_163 : decode cX6_laysRows 163 = .ok (.iaload, 1) := by decide +kernel
theorem dX6_laysRows_164 : decode cX6_laysRows 164 = .ok (.istore 6, 2) := by decide +kernel
theorem dX6_laysRows_166 : decode cX6_laysRows 166 = .ok (.iload 6, 2) := by decide +kernel
theorem dX6_laysRows_168 : decode cX6_laysRows 168 = .ok (.iload_n 1, 1) := by decide +kernel
theorem dX6_laysRows_169 : decode cX6_laysRows 169 = .ok (.invokestatic 140, 3) := by decide +kernel
theorem dX6_laysRows_172 : decode cX6_laysRows 172 = .ok (.ifCond .eq 19, 3) := by decide +kernel
theorem dX6_laysRows_175 : decode cX6_laysRows 175 = .ok (.aload_n 0, 1) := by decide +kernel
theorem dX6_laysRows_176 : decode cX6_laysRows 176 = .ok (.getfield 38, 3) := by decide +kernel
theorem dX6_laysRows_179 : decode cX6_laysRows 179 = .ok (.iload 4, 2) := by decide +kernel
theorem dX6_laysRows_181 : decode cX6_laysRows 181 = .ok (.iload_n 2, 1) := by decide +kernel
theorem dX6_laysRows_182 : decode cX6_laysRows 182 = .ok (.iadd, 1) := by decide +kernel
theorem dX6_laysRows_183 : decode cX6_laysRows 183 = .ok (.dup2, 1) := by decide +kernel
theorem dX6_laysRows_184 : decode cX6_laysRows 184 = .ok (.laload, 1) := by decide +kernel
theorem dX6_laysRows_185 : decode cX6_laysRows 185 = .ok (.lconst 1, 1) := by decide +kernel
theorem dX6_laysRows_186 : decode cX6_laysRows 186 = .ok (.ladd, 1) := by decide +kernel
theorem dX6_laysRows_187 : decode cX6_laysRows 187 = .ok (.lastore, 1) := by decide +kernel
theorem dX6_laysRows_188 : decode cX6_laysRows 188 = .ok (.goto 39, 3) := by decide +kernel
theorem dX6_laysRows_191 : decode cX6_laysRows 191 = .ok (.iload 6, 2) := by decide +kernel
theorem dX6_laysRows_193 : decode cX6_laysRows 193 = .ok (.ifCond .lt 34, 3) := by decide +kernel
theorem dX6_laysRows_196 : decode cX6_laysRows 196 = .ok (.aload_n 0, 1) := by decide +kernel
theorem dX6_laysRows_197 : decode cX6_laysRows 197 = .ok (.getfield 35, 3) := by decide +kernel
theorem dX6_laysRows_200 : decode cX6_laysRows 200 = .ok (.iload 6, 2) := by decide +kernel
theorem dX6_laysRows_202 : decode cX6_laysRows 202 = .ok (.iaload, 1) := by decide +kernel
theorem dX6_laysRows_203 : decode cX6_laysRows 203 = .ok (.bipush (-4), 2) := by decide +kernel
theorem dX6_laysRows_205 : decode cX6_laysRows 205 = .ok (.if_icmp .eq 22, 3) := by decide +kernel
theorem dX6_laysRows_208 : decode cX6_laysRows 208 = .ok (.aload_n 0, 1) := by decide +kernel
theorem dX6_laysRows_209 : decode cX6_laysRows 209 = .ok (.getfield 38, 3) := by decide +kernel
theorem dX6_laysRows_212 : decode cX6_laysRows 212 = .ok (.iload 4, 2) := by decide +kernel
theorem dX6_laysRows_214 : decode cX6_laysRows 214 = .ok (.aload_n 0, 1) := by decide +kernel
theorem dX6_laysRows_215 : decode cX6_laysRows 215 = .ok (.getfield 35, 3) := by decide +kernel
theorem dX6_laysRows_218 : decode cX6_laysRows 218 = .ok (.iload 6, 2) := by decide +kernel
theorem dX6_laysRows_220 : decode cX6_laysRows 220 = .ok (.iaload, 1) := by decide +kernel
theorem dX6_laysRows_221 : decode cX6_laysRows 221 = .ok (.iadd, 1) := by decide +kernel
theorem dX6_laysRows_222 : decode cX6_laysRows 222 = .ok (.dup2, 1) := by decide +kernel
theorem dX6_laysRows_223 : decode cX6_laysRows 223 = .ok (.laload, 1) := by decide +kernel
theorem dX6_laysRows_224 : decode cX6_laysRows 224 = .ok (.lconst 1, 1) := by decide +kernel
theorem dX6_laysRows_225 : decode cX6_laysRows 225 = .ok (.lsub, 1) := by decide +kernel
theorem dX6_laysRows_226 : decode cX6_laysRows 226 = .ok (.lastore, 1) := by decide +kernel
theorem dX6_laysRows_227 : decode cX6_laysRows 227 = .ok (.iinc 5 1, 3) := by decide +kernel
theorem dX6_laysRows_230 : decode cX6_laysRows 230 = .ok (.goto (-83), 3) := by decide +kernel
theorem dX6_laysRows_233 : decode cX6_laysRows 233 = .ok (.iinc 3 1, 3) := by decide +kernel
theorem dX6_laysRows_236 : decode cX6_laysRows 236 = .ok (.goto (-150), 3) := by decide +kernel
theorem dX6_laysRows_239 : decode cX6_laysRows 239 = .ok (.iload_n 2, 1) := by decide +kernel
theorem dX6_laysRows_240 : decode cX6_laysRows 240 = .ok (.ireturn, 1) := by decide +kernel
theorem dX6_solves_0 : decode cX6_solves 0 = .ok (.lconst 1, 1) := by decide +kernel
theorem dX6_solves_1 : decode cX6_solves 1 = .ok (.lstore_n 2, 1) := by decide +kernel
theorem dX6_solves_2 : decode cX6_solves 2 = .ok (.iconst 0, 1) := by decide +kernel
theorem dX6_solves_3 : decode cX6_solves 3 = .ok (.istore 4, 2) := by decide +kernel
theorem dX6_solves_5 : decode cX6_solves 5 = .ok (.iload 4, 2) := by decide +kernel
theorem dX6_solves_7 : decode cX6_solves 7 = .ok (.iload_n 1, 1) := by decide +kernel
theorem dX6_solves_8 : decode cX6_solves 8 = .ok (.iconst 1, 1) := by decide +kernel
theorem dX6_solves_9 : decode cX6_solves 9 = .ok (.isub, 1) := by decide +kernel
theorem dX6_solves_10 : decode cX6_solves 10 = .ok (.if_icmp .ge 124, 3) := by decide +kernel
theorem dX6_solves_13 : decode cX6_solves 13 = .ok (.aload_n 0, 1) := by decide +kernel
theorem dX6_solves_14 : decode cX6_solves 14 = .ok (.getfield 38, 3) := by decide +kernel
theorem dX6_solves_17 : decode cX6_solves 17 = .ok (.bipush 21, 2) := by decide +kernel
theorem dX6_solves_19 : decode cX6_solves 19 = .ok (.iload 4, 2) := by decide +kernel
theorem dX6_solves_21 : decode cX6_solves 21 = .ok (.imul, 1) := by decide +kernel
theorem dX6_solves_22 : decode cX6_solves 22 = .ok (.iload 4, 2) := by decide +kernel
theorem dX6_solves_24 : decode cX6_solves 24 = .ok (.iadd, 1) := by decide +kernel
theorem dX6_solves_25 : decode cX6_solves 25 = .ok (.laload, 1) := by decide +kernel
theorem dX6_solves_26 : decode cX6_solves 26 = .ok (.lstore 5, 2) := by decide +kernel
theorem dX6_solves_28 : decode cX6_solves 28 = .ok (.iload 4, 2) := by decide +kernel
theorem dX6_solves_30 : decode cX6_solves 30 = .ok (.iconst 1, 1) := by decide +kernel
theorem dX6_solves_31 : decode cX6_solves 31 = .ok (.iadd, 1) := by decide +kernel
theorem dX6_solves_32 : decode cX6_solves 32 = .ok (.istore 7, 2) := by decide +kernel
theorem dX6_solves_34 : decode cX6_solves 34 = .ok (.iload 7, 2) := by decide +kernel
theorem dX6_solves_36 : decode cX6_solves 36 = .ok (.iload_n 1, 1) := by decide +kernel
theorem dX6_solves_37 : decode cX6_solves 37 = .ok (.if_icmp .ge 88, 3) := by decide +kernel
theorem dX6_solves_40 : decode cX6_solves 40 = .ok (.aload_n 0, 1) := by decide +kernel
theorem dX6_solves_41 : decode cX6_solves 41 = .ok (.getfield 38, 3) := by decide +kernel
theorem dX6_solves_44 : decode cX6_solves 44 = .ok (.bipush 21, 2) := by decide +kernel
theorem dX6_solves_46 : decode cX6_solves 46 = .ok (.iload 7, 2) := by decide +kernel
theorem dX6_solves_48 : decode cX6_solves 48 = .ok (.imul, 1) := by decide +kernel
theorem dX6_solves_49 : decode cX6_solves 49 = .ok (.iload 4, 2) := by decide +kernel
theorem dX6_solves_51 : decode cX6_solves 51 = .ok (.iadd, 1) := by decide +kernel
theorem dX6_solves_52 : decode cX6_solves 52 = .ok (.laload, 1) := by decide +kernel
theorem dX6_solves_53 : decode cX6_solves 53 = .ok (.lstore 8, 2) := by decide +kernel
theorem dX6_solves_55 : decode cX6_solves 55 = .ok (.iload 4, 2) := by decide +kernel
theorem dX6_solves_57 : decode cX6_solves 57 = .ok (.istore 10, 2) := by decide +kernel
theorem dX6_solves_59 : decode cX6_solves 59 = .ok (.iload 10, 2) := by decide +kernel
theorem dX6_solves_61 : decode cX6_solves 61 = .ok (.iload_n 1, 1) := by decide +kernel
theorem dX6_solves_62 : decode cX6_solves 62 = .ok (.if_icmp .gt 57, 3) := by decide +kernel
theorem dX6_solves_65 : decode cX6_solves 65 = .ok (.aload_n 0, 1) := by decide +kernel
theorem dX6_solves_66 : decode cX6_solves 66 = .ok (.getfield 38, 3) := by decide +kernel
theorem dX6_solves_69 : decode cX6_solves 69 = .ok (.bipush 21, 2) := by decide +kernel
theorem dX6_solves_71 : decode cX6_solves 71 = .ok (.iload 7, 2) := by decide +kernel
theorem dX6_solves_73 : decode cX6_solves 73 = .ok (.imul, 1) := by decide +kernel
theorem dX6_solves_74 : decode cX6_solves 74 = .ok (.iload 10, 2) := by decide +kernel
theorem dX6_solves_76 : decode cX6_solves 76 = .ok (.iadd, 1) := by decide +kernel
theorem dX6_solves_77 : decode cX6_solves 77 = .ok (.aload_n 0, 1) := by decide +kernel
theorem dX6_solves_78 : decode cX6_solves 78 = .ok (.getfield 38, 3) := by decide +kernel
theorem dX6_solves_81 : decode cX6_solves 81 = .ok (.bipush 21, 2) := by decide +kernel
theorem dX6_solves_83 : decode cX6_solves 83 = .ok (.iload 7, 2) := by decide +kernel
theorem dX6_solves_85 : decode cX6_solves 85 = .ok (.imul, 1) := by decide +kernel
theorem dX6_solves_86 : decode cX6_solves 86 = .ok (.iload 10, 2) := by decide +kernel
theorem dX6_solves_88 : decode cX6_solves 88 = .ok (.iadd, 1) := by decide +kernel
theorem dX6_solves_89 : decode cX6_solves 89 = .ok (.laload, 1) := by decide +kernel
theorem dX6_solves_90 : decode cX6_solves 90 = .ok (.lload 5, 2) := by decide +kernel
theorem dX6_solves_92 : decode cX6_solves 92 = .ok (.lmul, 1) := by decide +kernel
theorem dX6_solves_93 : decode cX6_solves 93 = .ok (.lload 8, 2) := by decide +kernel
theorem dX6_solves_95 : decode cX6_solves 95 = .ok (.aload_n 0, 1) := by decide +kernel
theorem dX6_solves_96 : decode cX6_solves 96 = .ok (.getfield 38, 3) := by decide +kernel
theorem dX6_solves_99 : decode cX6_solves 99 = .ok (.bipush 21, 2) := by decide +kernel
theorem dX6_solves_101 : decode cX6_solves 101 = .ok (.iload 4, 2) := by decide +kernel
theorem dX6_solves_103 : decode cX6_solves 103 = .ok (.imul, 1) := by decide +kernel
theorem dX6_solves_104 : decode cX6_solves 104 = .ok (.iload 10, 2) := by decide +kernel
theorem dX6_solves_106 : decode cX6_solves 106 = .ok (.iadd, 1) := by decide +kernel
theorem dX6_solves_107 : decode cX6_solves 107 = .ok (.laload, 1) := by decide +kernel
theorem dX6_solves_108 : decode cX6_solves 108 = .ok (.lmul, 1) := by decide +kernel
theorem dX6_solves_109 : decode cX6_solves 109 = .ok (.lsub, 1) := by decide +kernel
theorem dX6_solves_110 : decode cX6_solves 110 = .ok (.lload_n 2, 1) := by decide +kernel
theorem dX6_solves_111 : decode cX6_solves 111 = .ok (.ldiv, 1) := by decide +kernel
theorem dX6_solves_112 : decode cX6_solves 112 = .ok (.lastore, 1) := by decide +kernel
theorem dX6_solves_113 : decode cX6_solves 113 = .ok (.iinc 10 1, 3) := by decide +kernel
theorem dX6_solves_116 : decode cX6_solves 116 = .ok (.goto (-57), 3) := by decide +kernel
theorem dX6_solves_119 : decode cX6_solves 119 = .ok (.iinc 7 1, 3) := by decide +kernel
theorem dX6_solves_122 : decode cX6_solves 122 = .ok (.goto (-88), 3) := by decide +kernel
theorem dX6_solves_125 : decode cX6_solves 125 = .ok (.lload 5, 2) := by decide +kernel
theorem dX6_solves_127 : decode cX6_solves 127 = .ok (.lstore_n 2, 1) := by decide +kernel
theorem dX6_solves_128 : decode cX6_solves 128 = .ok (.iinc 4 1, 3) := by decide +kernel
theorem dX6_solves_131 : decode cX6_solves 131 = .ok (.goto (-126), 3) := by decide +kernel
theorem dX6_solves_134 : decode cX6_solves 134 = .ok (.aload_n 0, 1) := by decide +kernel
theorem dX6_solves_135 : decode cX6_solves 135 = .ok (.aload_n 0, 1) := by decide +kernel
theorem dX6_solves_136 : decode cX6_solves 136 = .ok (.getfield 38, 3) := by decide +kernel
theorem dX6_solves_139 : decode cX6_solves 139 = .ok (.bipush 21, 2) := by decide +kernel
theorem dX6_solves_141 : decode cX6_solves 141 = .ok (.iload_n 1, 1) := by decide +kernel
theorem dX6_solves_142 : decode cX6_solves 142 = .ok (.iconst 1, 1) := by decide +kernel
theorem dX6_solves_143 : decode cX6_solves 143 = .ok (.isub, 1) := by decide +kernel
theorem dX6_solves_144 : decode cX6_solves 144 = .ok (.imul, 1) := by decide +kernel
theorem dX6_solves_145 : decode cX6_solves 145 = .ok (.iload_n 1, 1) := by decide +kernel
theorem dX6_solves_146 : decode cX6_solves 146 = .ok (.iadd, 1) := by decide +kernel
theorem dX6_solves_147 : decode cX6_solves 147 = .ok (.laload, 1) := by decide +kernel
theorem dX6_solves_148 : decode cX6_solves 148 = .ok (.putfield 146, 3) := by decide +kernel
theorem dX6_solves_151 : decode cX6_solves 151 = .ok (.aload_n 0, 1) := by decide +kernel
theorem dX6_solves_152 : decode cX6_solves 152 = .ok (.aload_n 0, 1) := by decide +kernel
theorem dX6_solves_153 : decode cX6_solves 153 = .ok (.getfield 38, 3) := by decide +kernel
theorem dX6_solves_156 : decode cX6_solves 156 = .ok (.bipush 21, 2) := by decide +kernel
theorem dX6_solves_158 : decode cX6_solves 158 = .ok (.iload_n 1, 1) := by decide +kernel
theorem dX6_solves_159 : decode cX6_solves 159 = .ok (.iconst 1, 1) := by decide +kernel
theorem dX6_solves_160 : decode cX6_solves 160 = .ok (.isub, 1) := by decide +kernel
theorem dX6_solves_161 : decode cX6_solves 161 = .ok (.imul, 1) := by decide +kernel
theorem dX6_solves_162 : decode cX6_solves 162 = .ok (.iload_n 1, 1) := by decide +kernel
theorem dX6_solves_163 : decode cX6_solves 163 = .ok (.iadd, 1) := by decide +kernel
theorem dX6_solves_164 : decode cX6_solves 164 = .ok (.iconst 1, 1) := by decide +kernel
theorem dX6_solves_165 : decode cX6_solves 165 = .ok (.isub, 1) := by decide +kernel
theorem dX6_solves_166 : decode cX6_solves 166 = .ok (.laload, 1) := by decide +kernel
theorem dX6_solves_167 : decode cX6_solves 167 = .ok (.putfield 150, 3) := by decide +kernel
theorem dX6_solves_170 : decode cX6_solves 170 = .ok (.return_, 1) := by decide +kernel
theorem dX6_lowers_0 : decode cX6_lowers 0 = .ok (.aload_n 0, 1) := by decide +kernel
theorem dX6_lowers_1 : decode cX6_lowers 1 = .ok (.getfield 146, 3) := by decide +kernel
theorem dX6_lowers_4 : decode cX6_lowers 4 = .ok (.lstore_n 1, 1) := by decide +kernel
theorem dX6_lowers_5 : decode cX6_lowers 5 = .ok (.aload_n 0, 1) := by decide +kernel
theorem dX6_lowers_6 : decode cX6_lowers 6 = .ok (.getfield 150, 3) := by decide +kernel
theorem dX6_lowers_9 : decode cX6_lowers 9 = .ok (.lstore_n 3, 1) := by decide +kernel
theorem dX6_lowers_10 : decode cX6_lowers 10 = .ok (.lload_n 3, 1) := by decide +kernel
theorem dX6_lowers_11 : decode cX6_lowers 11 = .ok (.lconst 0, 1) := by decide +kernel
theorem dX6_lowers_12 : decode cX6_lowers 12 = .ok (.lcmp, 1) := by decide +kernel
theorem dX6_lowers_13 : decode cX6_lowers 13 = .ok (.ifCond .eq 16, 3) := by decide +kernel
theorem dX6_lowers_16 : decode cX6_lowers 16 = .ok (.lload_n 1, 1) := by decide +kernel
theorem dX6_lowers_17 : decode cX6_lowers 17 = .ok (.lload_n 3, 1) := by decide +kernel
theorem dX6_lowers_18 : decode cX6_lowers 18 = .ok (.lrem, 1) := by decide +kernel
theorem dX6_lowers_19 : decode cX6_lowers 19 = .ok (.lstore 5, 2) := by decide +kernel
theorem dX6_lowers_21 : decode cX6_lowers 21 = .ok (.lload_n 3, 1) := by decide +kernel
theorem dX6_lowers_22 : decode cX6_lowers 22 = .ok (.lstore_n 1, 1) := by decide +kernel
theorem dX6_lowers_23 : decode cX6_lowers 23 = .ok (.lload 5, 2) := by decide +kernel
theorem dX6_lowers_25 : decode cX6_lowers 25 = .ok (.lstore_n 3, 1) := by decide +kernel
theorem dX6_lowers_26 : decode cX6_lowers 26 = .ok (.goto (-16), 3) := by decide +kernel
theorem dX6_lowers_29 : decode cX6_lowers 29 = .ok (.aload_n 0, 1) := by decide +kernel
theorem dX6_lowers_30 : decode cX6_lowers 30 = .ok (.dup, 1) := by decide +kernel
theorem dX6_lowers_31 : decode cX6_lowers 31 = .ok (.getfield 146, 3) := by decide +kernel
theorem dX6_lowers_34 : decode cX6_lowers 34 = .ok (.lload_n 1, 1) := by decide +kernel
theorem dX6_lowers_35 : decode cX6_lowers 35 = .ok (.ldiv, 1) := by decide +kernel
theorem dX6_lowers_36 : decode cX6_lowers 36 = .ok (.putfield 146, 3) := by decide +kernel
theorem dX6_lowers_39 : decode cX6_lowers 39 = .ok (.aload_n 0, 1) := by decide +kernel
theorem dX6_lowers_40 : decode cX6_lowers 40 = .ok (.dup, 1) := by decide +kernel
theorem dX6_lowers_41 : decode cX6_lowers 41 = .ok (.getfield 150, 3) := by decide +kernel
theorem dX6_lowers_44 : decode cX6_lowers 44 = .ok (.lload_n 1, 1) := by decide +kernel
theorem dX6_lowers_45 : decode cX6_lowers 45 = .ok (.ldiv, 1) := by decide +kernel
theorem dX6_lowers_46 : decode cX6_lowers 46 = .ok (.putfield 150, 3) := by decide +kernel
theorem dX6_lowers_49 : decode cX6_lowers 49 = .ok (.return_, 1) := by decide +kernel
set_option maxRecDepth 20000 in
theorem ggX6_shares_X6_portState : GoodIn wsX6_shares wsX6_portState := goodIn_r _ [7] (by decide +kernel) (by decide +kernel)
set_option maxRecDepth 20000 in
theorem gX6_shares_X6_portState : GoodIn wsX6_shares (va_wsS RX6 117 yX6_portState wsX6_portState) := goodIn_app (goodIn_of _ (by decide +kernel)) ggX6_shares_X6_portState
set_option maxRecDepth 20000 in
theorem ggX6_shares_X6_follows : GoodIn wsX6_shares wsX6_follows := goodIn_r _ [10, 11, 12, 6, 13, 14, 15, 16, 17, 18, 19, 20, 21, 22, 23, 24, 25, 26, 27, 28] (by decide +kernel) (by decide +kernel)
set_option maxRecDepth 20000 in
theorem gX6_shares_X6_follows : GoodIn wsX6_shares (va_wsS RX6 137 yX6_follows wsX6_follows) := goodIn_app (goodIn_of _ (by decide +kernel)) ggX6_shares_X6_follows
set_option maxRecDepth 20000 in
theorem ggX6_shares_X6_isAsked : GoodIn wsX6_shares wsX6_isAsked := goodIn_r _ [31] (by decide +kernel) (by decide +kernel)
set_option maxRecDepth 20000 in
theorem gX6_shares_X6_isAsked : GoodIn wsX6_shares (va_wsS RX6 140 yX6_isAsked wsX6_isAsked) := goodIn_app (goodIn_of _ (by decide +kernel)) ggX6_shares_X6_isAsked
set_option maxRecDepth 20000 in
theorem ggX6_shares_X6_gathers : GoodIn wsX6_shares wsX6_gathers := goodIn_r _ [35, 36, 37, 38, 20, 21, 6, 22, 17, 18, 19, 14, 15, 16, 23, 24, 25, 26, 27, 28, 8, 9, 10, 11, 12, 13, 58, 59, 60, 61, 62, 63, 64, 65, 66, 67, 68, 69, 70, 71, 72, 73, 74, 75, 76] (by decide +kernel) (by decide +kernel)
set_option maxRecDepth 20000 in
theorem gX6_shares_X6_gathers : GoodIn wsX6_shares (wsV RX6 153 RX6 yX6_gathers wsX6_gathers) := goodIn_app (goodIn_of _ (by decide +kernel)) ggX6_shares_X6_gathers
set_option maxRecDepth 20000 in
theorem ggX6_shares_X6_findsMay : GoodIn wsX6_shares wsX6_findsMay := goodIn_r _ [42, 43, 36, 3, 37, 38, 29, 30, 6, 31, 58, 59, 60, 61, 62, 63, 64, 65, 66, 67, 68, 69, 70, 71, 72, 73, 74, 75, 76] (by decide +kernel) (by decide +kernel)
set_option maxRecDepth 20000 in
theorem gX6_shares_X6_findsMay : GoodIn wsX6_shares (wsV RX6 157 RX6 yX6_findsMay wsX6_findsMay) := goodIn_app (goodIn_of _ (by decide +kernel)) ggX6_shares_X6_findsMay
set_option maxRecDepth 20000 in
theorem ggX6_shares_X6_laysRows : GoodIn wsX6_shares wsX6_laysRows := goodIn_r _ [47, 36, 43, 37, 3, 48, 49, 38, 29, 30, 6, 31, 58, 59, 60, 61, 62, 63, 64, 65, 66, 67, 68, 69, 70, 71, 72, 73, 74, 75, 76] (by decide +kernel) (by decide +kernel)
set_option maxRecDepth 20000 in
theorem gX6_shares_X6_laysRows : GoodIn wsX6_shares (wsV RX6 161 RX6 yX6_laysRows wsX6_laysRows) := goodIn_app (goodIn_of _ (by decide +kernel)) ggX6_shares_X6_laysRows
set_option maxRecDepth 20000 in
theorem ggX6_shares_X6_solves : GoodIn wsX6_shares wsX6_solves := goodIn_r _ [53, 48, 1, 2, 58, 59, 60, 61, 62, 63, 64, 65, 66, 67, 68, 69, 70, 71, 72, 73, 74, 75, 76] (by decide +kernel) (by decide +kernel)
set_option maxRecDepth 20000 in
theorem gX6_shares_X6_solves : GoodIn wsX6_shares (wsV RX6 164 RX6 yX6_solves wsX6_solves) := goodIn_app (goodIn_of _ (by decide +kernel)) ggX6_shares_X6_solves
set_option maxRecDepth 20000 in
theorem ggX6_shares_X6_lowers : GoodIn wsX6_shares wsX6_lowers := goodIn_r _ [57, 1, 2, 58, 59, 60, 61, 62, 63, 64, 65, 66, 67, 68, 69, 70, 71, 72, 73, 74, 75, 76] (by decide +kernel) (by decide +kernel)
set_option maxRecDepth 20000 in
theorem gX6_shares_X6_lowers : GoodIn wsX6_shares (wsV RX6 167 RX6 yX6_lowers wsX6_lowers) := goodIn_app (goodIn_of _ (by decide +kernel)) ggX6_shares_X6_lowers
theorem dX6_shares_0 : decode cX6_shares 0 = .ok (.aload_n 1, 1) := by decide +kernel
theorem dX6_shares_1 : decode cX6_shares 1 = .ok (.aload_n 1, 1) := by decide +kernel
theorem dX6_shares_2 : decode cX6_shares 2 = .ok (.iload_n 2, 1) := by decide +kernel
theorem dX6_shares_3 : decode cX6_shares 3 = .ok (.invokestatic 117, 3) := by decide +kernel
theorem dX6_shares_6 : decode cX6_shares 6 = .ok (.invokestatic 137, 3) := by decide +kernel
theorem dX6_shares_9 : decode cX6_shares 9 = .ok (.istore 4, 2) := by decide +kernel
theorem dX6_shares_11 : decode cX6_shares 11 = .ok (.aload_n 0, 1) := by decide +kernel
theorem dX6_shares_12 : decode cX6_shares 12 = .ok (.iload 4, 2) := by decide +kernel
theorem dX6_shares_14 : decode cX6_shares 14 = .ok (.iload_n 3, 1) := by decide +kernel
theorem dX6_shares_15 : decode cX6_shares 15 = .ok (.invokestatic 140, 3) := by decide +kernel
theorem dX6_shares_18 : decode cX6_shares 18 = .ok (.ifCond .eq 7, 3) := by decide +kernel
theorem dX6_shares_21 : decode cX6_shares 21 = .ok (.lconst 1, 1) := by decide +kernel
theorem dX6_shares_22 : decode cX6_shares 22 = .ok (.goto 4, 3) := by decide +kernel
theorem dX6_shares_25 : decode cX6_shares 25 = .ok (.lconst 0, 1) := by decide +kernel
theorem dX6_shares_26 : decode cX6_shares 26 = .ok (.putfield 146, 3) := by decide +kernel
theorem dX6_shares_29 : decode cX6_shares 29 = .ok (.aload_n 0, 1) := by decide +kernel
theorem dX6_shares_30 : decode cX6_shares 30 = .ok (.lconst 1, 1) := by decide +kernel
theorem dX6_shares_31 : decode cX6_shares 31 = .ok (.putfield 150, 3) := by decide +kernel
theorem dX6_shares_34 : decode cX6_shares 34 = .ok (.iload 4, 2) := by decide +kernel
theorem dX6_shares_36 : decode cX6_shares 36 = .ok (.ifCond .ge 4, 3) := by decide +kernel
theorem dX6_shares_39 : decode cX6_shares 39 = .ok (.return_, 1) := by decide +kernel
theorem dX6_shares_40 : decode cX6_shares 40 = .ok (.aload_n 0, 1) := by decide +kernel
theorem dX6_shares_41 : decode cX6_shares 41 = .ok (.aload_n 1, 1) := by decide +kernel
theorem dX6_shares_42 : decode cX6_shares 42 = .ok (.iload 4, 2) := by decide +kernel
theorem dX6_shares_44 : decode cX6_shares 44 = .ok (.invokevirtual 153, 3) := by decide +kernel
theorem dX6_shares_47 : decode cX6_shares 47 = .ok (.aload_n 0, 1) := by decide +kernel
theorem dX6_shares_48 : decode cX6_shares 48 = .ok (.iload_n 3, 1) := by decide +kernel
theorem dX6_shares_49 : decode cX6_shares 49 = .ok (.invokevirtual 157, 3) := by decide +kernel
theorem dX6_shares_52 : decode cX6_shares 52 = .ok (.aload_n 0, 1) := by decide +kernel
theorem dX6_shares_53 : decode cX6_shares 53 = .ok (.getfield 31, 3) := by decide +kernel
theorem dX6_shares_56 : decode cX6_shares 56 = .ok (.iconst 0, 1) := by decide +kernel
theorem dX6_shares_57 : decode cX6_shares 57 = .ok (.baload, 1) := by decide +kernel
theorem dX6_shares_58 : decode cX6_shares 58 = .ok (.ifCond .eq 16, 3) := by decide +kernel
theorem dX6_shares_61 : decode cX6_shares 61 = .ok (.aload_n 0, 1) := by decide +kernel
theorem dX6_shares_62 : decode cX6_shares 62 = .ok (.aload_n 0, 1) := by decide +kernel
theorem dX6_shares_63 : decode cX6_shares 63 = .ok (.iload_n 3, 1) := by decide +kernel
theorem dX6_shares_64 : decode cX6_shares 64 = .ok (.invokevirtual 161, 3) := by decide +kernel
theorem dX6_shares_67 : decode cX6_shares 67 = .ok (.invokevirtual 164, 3) := by decide +kernel
theorem dX6_shares_70 : decode cX6_shares 70 = .ok (.aload_n 0, 1) := by decide +kernel
theorem dX6_shares_71 : decode cX6_shares 71 = .ok (.invokevirtual 167, 3) := by decide +kernel
theorem dX6_shares_74 : decode cX6_shares 74 = .ok (.return_, 1) := by decide +kernel
set_option maxRecDepth 20000 in
theorem ggX6_share_X6_isPort : GoodIn wsX6_share wsX6_isPort := goodIn_r _ [8, 1, 9, 10, 7, 11, 12, 13, 14, 70, 71, 72, 73, 74, 75, 76, 77, 78, 79, 80, 81, 82, 83, 84, 85, 86, 87, 88] (by decide +kernel) (by decide +kernel)
set_option maxRecDepth 20000 in
theorem gX6_share_X6_isPort : GoodIn wsX6_share (wsV RX6 114 RX6 yX6_isPort wsX6_isPort) := goodIn_app (goodIn_of _ (by decide +kernel)) ggX6_share_X6_isPort
set_option maxRecDepth 20000 in
theorem ggX6_share_X6_in : GoodIn wsX6_share wsX6_in := goodIn_r _ [14] (by decide +kernel) (by decide +kernel)
set_option maxRecDepth 20000 in
theorem gX6_share_X6_in : GoodIn wsX6_share (va_wsS RX6 48 yX6_in wsX6_in) := goodIn_app (goodIn_of _ (by decide +kernel)) ggX6_share_X6_in
set_option maxRecDepth 20000 in
theorem ggX6_share_X6_shares : GoodIn wsX6_share wsX6_shares := goodIn_r _ [18, 2, 3, 19, 20, 21, 7, 22, 23, 24, 25, 26, 27, 28, 29, 30, 31, 12, 13, 14, 32, 33, 34, 35, 36, 37, 38, 39, 40, 41, 42, 43, 44, 45, 46, 47, 48, 49, 50, 51, 52, 53, 54, 55, 56, 57, 58, 59, 60, 61, 62, 63, 64, 65, 66, 67, 68, 69, 70, 71, 72, 73, 74, 75, 76, 77, 78, 79, 80, 81, 82, 83, 84, 85, 86, 87, 88] (by decide +kernel) (by decide +kernel)
set_option maxRecDepth 20000 in
theorem gX6_share_X6_shares : GoodIn wsX6_share (wsV RX6 170 RX6 yX6_shares wsX6_shares) := goodIn_app (goodIn_of _ (by decide +kernel)) ggX6_share_X6_shares
theorem dX6_share_0 : decode cX6_share 0 = .ok (.aload_n 0, 1) := by decide +kernel
theorem dX6_share_1 : decode cX6_share 1 = .ok (.iload_n 1, 1) := by decide +kernel
theorem dX6_share_2 : decode cX6_share 2 = .ok (.invokevirtual 114, 3) := by decide +kernel
theorem dX6_share_5 : decode cX6_share 5 = .ok (.ifCond .eq 20, 3) := by decide +kernel
theorem dX6_share_8 : decode cX6_share 8 = .ok (.aload_n 0, 1) := by decide +kernel
theorem dX6_share_9 : decode cX6_share 9 = .ok (.iload_n 2, 1) := by decide +kernel
theorem dX6_share_10 : decode cX6_share 10 = .ok (.invokevirtual 114, 3) := by decide +kernel
theorem dX6_share_13 : decode cX6_share 13 = .ok (.ifCond .eq 12, 3) := by decide +kernel
theorem dX6_share_16 : decode cX6_share 16 = .ok (.iload_n 3, 1) := by decide +kernel
theorem dX6_share_17 : decode cX6_share 17 = .ok (.iconst 0, 1) := by decide +kernel
theorem dX6_share_18 : decode cX6_share 18 = .ok (.iconst 1, 1) := by decide +kernel
theorem dX6_share_19 : decode cX6_share 19 = .ok (.invokestatic 48, 3) := by decide +kernel
theorem dX6_share_22 : decode cX6_share 22 = .ok (.ifCond .ne 5, 3) := by decide +kernel
theorem dX6_share_25 : decode cX6_share 25 = .ok (.iconst (-1), 1) := by decide +kernel
theorem dX6_share_26 : decode cX6_share 26 = .ok (.ireturn, 1) := by decide +kernel
theorem dX6_share_27 : decode cX6_share 27 = .ok (.aload_n 0, 1) := by decide +kernel
theorem dX6_share_28 : decode cX6_share 28 = .ok (.aload_n 0, 1) := by decide +kernel
theorem dX6_share_29 : decode cX6_share 29 = .ok (.getfield 7, 3) := by decide +kernel
theorem dX6_share_32 : decode cX6_share 32 = .ok (.iload_n 1, 1) := by decide +kernel
theorem dX6_share_33 : decode cX6_share 33 = .ok (.iload_n 2, 1) := by decide +kernel
theorem dX6_share_34 : decode cX6_share 34 = .ok (.invokevirtual 170, 3) := by decide +kernel
theorem dX6_share_37 : decode cX6_share 37 = .ok (.iload_n 3, 1) := by decide +kernel
theorem dX6_share_38 : decode cX6_share 38 = .ok (.ifCond .ne 10, 3) := by decide +kernel
theorem dX6_share_41 : decode cX6_share 41 = .ok (.aload_n 0, 1) := by decide +kernel
theorem dX6_share_42 : decode cX6_share 42 = .ok (.getfield 146, 3) := by decide +kernel
theorem dX6_share_45 : decode cX6_share 45 = .ok (.goto 7, 3) := by decide +kernel
theorem dX6_share_48 : decode cX6_share 48 = .ok (.aload_n 0, 1) := by decide +kernel
theorem dX6_share_49 : decode cX6_share 49 = .ok (.getfield 150, 3) := by decide +kernel
theorem dX6_share_52 : decode cX6_share 52 = .ok (.l2i, 1) := by decide +kernel
theorem dX6_share_53 : decode cX6_share 53 = .ok (.ireturn, 1) := by decide +kernel
set_option maxRecDepth 20000 in
theorem ggX6_lostOf_X6_shares : GoodIn wsX6_lostOf wsX6_shares := goodIn_r _ [8, 3, 2, 9, 10, 11, 7, 12, 13, 14, 15, 16, 17, 18, 19, 20, 21, 22, 23, 24, 25, 26, 27, 28, 29, 30, 31, 32, 33, 34, 35, 36, 37, 38, 39, 40, 41, 42, 43, 44, 45, 46, 47, 48, 49, 50, 51, 52, 53, 54, 55, 56, 57, 58, 59, 60, 61, 62, 63, 64, 65, 66, 67, 68, 69, 70, 71, 72, 73, 74, 75, 76, 77, 78, 79, 80, 81] (by decide +kernel) (by decide +kernel)
set_option maxRecDepth 20000 in
theorem gX6_lostOf_X6_shares : GoodIn wsX6_lostOf (wsV RX6 170 RX6 yX6_shares wsX6_shares) := goodIn_app (goodIn_of _ (by decide +kernel)) ggX6_lostOf_X6_shares
theorem dX6_lostOf_0 : decode cX6_lostOf 0 = .ok (.aload_n 0, 1) := by decide +kernel
theorem dX6_lostOf_1 : decode cX6_lostOf 1 = .ok (.aload_n 0, 1) := by decide +kernel
theorem dX6_lostOf_2 : decode cX6_lostOf 2 = .ok (.getfield 7, 3) := by decide +kernel
theorem dX6_lostOf_5 : decode cX6_lostOf 5 = .ok (.iload_n 1, 1) := by decide +kernel
theorem dX6_lostOf_6 : decode cX6_lostOf 6 = .ok (.iload_n 2, 1) := by decide +kernel
theorem dX6_lostOf_7 : decode cX6_lostOf 7 = .ok (.iconst 2, 1) := by decide +kernel
theorem dX6_lostOf_8 : decode cX6_lostOf 8 = .ok (.if_icmp .ge 7, 3) := by decide +kernel
theorem dX6_lostOf_11 : decode cX6_lostOf 11 = .ok (.iconst (-1), 1) := by decide +kernel
theorem dX6_lostOf_12 : decode cX6_lostOf 12 = .ok (.goto 5, 3) := by decide +kernel
theorem dX6_lostOf_15 : decode cX6_lostOf 15 = .ok (.bipush (-2), 2) := by decide +kernel
theorem dX6_lostOf_17 : decode cX6_lostOf 17 = .ok (.invokevirtual 170, 3) := by decide +kernel
theorem dX6_lostOf_20 : decode cX6_lostOf 20 = .ok (.iload_n 2, 1) := by decide +kernel
theorem dX6_lostOf_21 : decode cX6_lostOf 21 = .ok (.iconst 2, 1) := by decide +kernel
theorem dX6_lostOf_22 : decode cX6_lostOf 22 = .ok (.irem, 1) := by decide +kernel
theorem dX6_lostOf_23 : decode cX6_lostOf 23 = .ok (.iconst 1, 1) := by decide +kernel
theorem dX6_lostOf_24 : decode cX6_lostOf 24 = .ok (.if_icmp .ne 10, 3) := by decide +kernel
theorem dX6_lostOf_27 : decode cX6_lostOf 27 = .ok (.aload_n 0, 1) := by decide +kernel
theorem dX6_lostOf_28 : decode cX6_lostOf 28 = .ok (.getfield 150, 3) := by decide +kernel
theorem dX6_lostOf_31 : decode cX6_lostOf 31 = .ok (.goto 23, 3) := by decide +kernel
theorem dX6_lostOf_34 : decode cX6_lostOf 34 = .ok (.iload_n 2, 1) := by decide +kernel
theorem dX6_lostOf_35 : decode cX6_lostOf 35 = .ok (.ifCond .ne 10, 3) := by decide +kernel
theorem dX6_lostOf_38 : decode cX6_lostOf 38 = .ok (.aload_n 0, 1) := by decide +kernel
theorem dX6_lostOf_39 : decode cX6_lostOf 39 = .ok (.getfield 146, 3) := by decide +kernel
theorem dX6_lostOf_42 : decode cX6_lostOf 42 = .ok (.goto 12, 3) := by decide +kernel
theorem dX6_lostOf_45 : decode cX6_lostOf 45 = .ok (.aload_n 0, 1) := by decide +kernel
theorem dX6_lostOf_46 : decode cX6_lostOf 46 = .ok (.getfield 150, 3) := by decide +kernel
theorem dX6_lostOf_49 : decode cX6_lostOf 49 = .ok (.aload_n 0, 1) := by decide +kernel
theorem dX6_lostOf_50 : decode cX6_lostOf 50 = .ok (.getfield 146, 3) := by decide +kernel
theorem dX6_lostOf_53 : decode cX6_lostOf 53 = .ok (.lsub, 1) := by decide +kernel
theorem dX6_lostOf_54 : decode cX6_lostOf 54 = .ok (.lreturn, 1) := by decide +kernel
set_option maxRecDepth 20000 in
theorem ggX6_lost_X6_isPort : GoodIn wsX6_lost wsX6_isPort := goodIn_r _ [5, 6, 7, 8, 4, 9, 10, 11, 12, 74, 75, 76, 77, 78, 79, 80, 81, 82, 83, 84, 85, 86, 87, 88, 89, 90, 91, 92] (by decide +kernel) (by decide +kernel)
set_option maxRecDepth 20000 in
theorem gX6_lost_X6_isPort : GoodIn wsX6_lost (wsV RX6 114 RX6 yX6_isPort wsX6_isPort) := goodIn_app (goodIn_of _ (by decide +kernel)) ggX6_lost_X6_isPort
set_option maxRecDepth 20000 in
theorem ggX6_lost_X6_in : GoodIn wsX6_lost wsX6_in := goodIn_r _ [12] (by decide +kernel) (by decide +kernel)
set_option maxRecDepth 20000 in
theorem gX6_lost_X6_in : GoodIn wsX6_lost (va_wsS RX6 48 yX6_in wsX6_in) := goodIn_app (goodIn_of _ (by decide +kernel)) ggX6_lost_X6_in
set_option maxRecDepth 20000 in
theorem ggX6_lost_X6_lostOf : GoodIn wsX6_lost wsX6_lostOf := goodIn_r _ [16, 6, 17, 18, 19, 20, 21, 4, 22, 23, 24, 25, 26, 27, 28, 29, 30, 31, 32, 33, 34, 35, 10, 11, 12, 36, 37, 38, 39, 40, 41, 42, 43, 44, 45, 46, 47, 48, 49, 50, 51, 52, 53, 54, 55, 56, 57, 58, 59, 60, 61, 62, 63, 64, 65, 66, 67, 68, 69, 70, 71, 72, 73, 74, 75, 76, 77, 78, 79, 80, 81, 82, 83, 84, 85, 86, 87, 88, 89, 90, 91, 92] (by decide +kernel) (by decide +kernel)
set_option maxRecDepth 20000 in
theorem gX6_lost_X6_lostOf : GoodIn wsX6_lost (wsV RX6 174 RX6 yX6_lostOf wsX6_lostOf) := goodIn_app (goodIn_of _ (by decide +kernel)) ggX6_lost_X6_lostOf
theorem dX6_lost_0 : decode cX6_lost 0 = .ok (.aload_n 0, 1) := by decide +kernel
theorem dX6_lost_1 : decode cX6_lost 1 = .ok (.iload_n 1, 1) := by decide +kernel
theorem dX6_lost_2 : decode cX6_lost 2 = .ok (.invokevirtual 114, 3) := by decide +kernel
theorem dX6_lost_5 : decode cX6_lost 5 = .ok (.ifCond .eq 12, 3) := by decide +kernel
theorem dX6_lost_8 : decode cX6_lost 8 = .ok (.iload_n 2, 1) := by decide +kernel
theorem dX6_lost_9 : decode cX6_lost 9 = .ok (.iconst 0, 1) := by decide +kernel
theorem dX6_lost_10 : decode cX6_lost 10 = .ok (.iconst 3, 1) := by decide +kernel
theorem dX6_lost_11 : decode cX6_lost 11 = .ok (.invokestatic 48, 3) := by decide +kernel
theorem dX6_lost_14 : decode cX6_lost 14 = .ok (.ifCond .ne 5, 3) := by decide +kernel
theorem dX6_lost_17 : decode cX6_lost 17 = .ok (.iconst (-1), 1) := by decide +kernel
theorem dX6_lost_18 : decode cX6_lost 18 = .ok (.ireturn, 1) := by decide +kernel
theorem dX6_lost_19 : decode cX6_lost 19 = .ok (.aload_n 0, 1) := by decide +kernel
theorem dX6_lost_20 : decode cX6_lost 20 = .ok (.iload_n 1, 1) := by decide +kernel
theorem dX6_lost_21 : decode cX6_lost 21 = .ok (.iload_n 2, 1) := by decide +kernel
theorem dX6_lost_22 : decode cX6_lost 22 = .ok (.invokevirtual 174, 3) := by decide +kernel
theorem dX6_lost_25 : decode cX6_lost 25 = .ok (.l2i, 1) := by decide +kernel
theorem dX6_lost_26 : decode cX6_lost 26 = .ok (.ireturn, 1) := by decide +kernel
set_option maxRecDepth 20000 in
theorem ggX6_bits_X6_isPort : GoodIn wsX6_bits wsX6_isPort := goodIn_r _ [8, 1, 9, 10, 7, 11, 12, 13, 14, 82, 83, 84, 85, 86, 87, 88, 89, 90, 91, 92, 93, 94, 95, 96, 97, 98, 99, 100] (by decide +kernel) (by decide +kernel)
set_option maxRecDepth 20000 in
theorem gX6_bits_X6_isPort : GoodIn wsX6_bits (wsV RX6 114 RX6 yX6_isPort wsX6_isPort) := goodIn_app (goodIn_of _ (by decide +kernel)) ggX6_bits_X6_isPort
set_option maxRecDepth 20000 in
theorem ggX6_bits_X6_shares : GoodIn wsX6_bits wsX6_shares := goodIn_r _ [18, 2, 3, 19, 20, 21, 7, 22, 23, 24, 25, 26, 27, 28, 29, 30, 31, 12, 13, 14, 32, 33, 34, 35, 36, 37, 38, 39, 40, 41, 42, 43, 44, 45, 46, 47, 48, 49, 50, 51, 52, 53, 54, 55, 56, 57, 58, 59, 60, 61, 62, 63, 64, 65, 66, 67, 68, 69, 82, 83, 84, 85, 86, 87, 88, 89, 90, 91, 92, 93, 94, 95, 96, 97, 98, 99, 100] (by decide +kernel) (by decide +kernel)
set_option maxRecDepth 20000 in
theorem gX6_bits_X6_shares : GoodIn wsX6_bits (wsV RX6 170 RX6 yX6_shares wsX6_shares) := goodIn_app (goodIn_of _ (by decide +kernel)) ggX6_bits_X6_shares
set_option maxRecDepth 20000 in
theorem ggX6_bits_Jxf58ca_floatToIntBits_5c35a : GoodIn wsX6_bits wsJxf58ca_floatToIntBits_5c35a := goodIn_r _ [73, 74, 75, 76, 77, 78, 79, 80, 72, 81] (by decide +kernel) (by decide +kernel)
set_option maxRecDepth 20000 in
theorem gX6_bits_Jxf58ca_floatToIntBits_5c35a : GoodIn wsX6_bits (va_wsS RX6 178 yJxf58ca_floatToIntBits_5c35a wsJxf58ca_floatToIntBits_5c35a) := goodIn_app (goodIn_of _ (by decide +kernel)) ggX6_bits_Jxf58ca_floatToIntBits_5c35a
theorem dX6_bits_0 : decode cX6_bits 0 = .ok (.aload_n 0, 1) := by decide +kernel
theorem dX6_bits_1 : decode cX6_bits 1 = .ok (.iload_n 1, 1) := by decide +kernel
theorem dX6_bits_2 : decode cX6_bits 2 = .ok (.invokevirtual 114, 3) := by decide +kernel
theorem dX6_bits_5 : decode cX6_bits 5 = .ok (.ifCond .eq 11, 3) := by decide +kernel
theorem dX6_bits_8 : decode cX6_bits 8 = .ok (.aload_n 0, 1) := by decide +kernel
theorem dX6_bits_9 : decode cX6_bits 9 = .ok (.iload_n 2, 1) := by decide +kernel
theorem dX6_bits_10 : decode cX6_bits 10 = .ok (.invokevirtual 114, 3) := by decide +kernel
theorem dX6_bits_13 : decode cX6_bits 13 = .ok (.ifCond .ne 5, 3) := by decide +kernel
theorem dX6_bits_16 : decode cX6_bits 16 = .ok (.iconst (-1), 1) := by decide +kernel
theorem dX6_bits_17 : decode cX6_bits 17 = .ok (.ireturn, 1) := by decide +kernel
theorem dX6_bits_18 : decode cX6_bits 18 = .ok (.aload_n 0, 1) := by decide +kernel
theorem dX6_bits_19 : decode cX6_bits 19 = .ok (.aload_n 0, 1) := by decide +kernel
theorem dX6_bits_20 : decode cX6_bits 20 = .ok (.getfield 7, 3) := by decide +kernel
theorem dX6_bits_23 : decode cX6_bits 23 = .ok (.iload_n 1, 1) := by decide +kernel
theorem dX6_bits_24 : decode cX6_bits 24 = .ok (.iload_n 2, 1) := by decide +kernel
theorem dX6_bits_25 : decode cX6_bits 25 = .ok (.invokevirtual 170, 3) := by decide +kernel
theorem dX6_bits_28 : decode cX6_bits 28 = .ok (.aload_n 0, 1) := by decide +kernel
theorem dX6_bits_29 : decode cX6_bits 29 = .ok (.getfield 146, 3) := by decide +kernel
theorem dX6_bits_32 : decode cX6_bits 32 = .ok (.l2f, 1) := by decide +kernel
theorem dX6_bits_33 : decode cX6_bits 33 = .ok (.aload_n 0, 1) := by decide +kernel
theorem dX6_bits_34 : decode cX6_bits 34 = .ok (.getfield 150, 3) := by decide +kernel
theorem dX6_bits_37 : decode cX6_bits 37 = .ok (.l2f, 1) := by decide +kernel
theorem dX6_bits_38 : decode cX6_bits 38 = .ok (.fdiv, 1) := by decide +kernel
theorem dX6_bits_39 : decode cX6_bits 39 = .ok (.invokestatic 178, 3) := by decide +kernel
theorem dX6_bits_42 : decode cX6_bits 42 = .ok (.ireturn, 1) := by decide +kernel
set_option maxRecDepth 20000 in
theorem ggX6_spreads_X6_portState : GoodIn wsX6_spreads wsX6_portState := goodIn_r _ [8] (by decide +kernel) (by decide +kernel)
set_option maxRecDepth 20000 in
theorem gX6_spreads_X6_portState : GoodIn wsX6_spreads (va_wsS RX6 117 yX6_portState wsX6_portState) := goodIn_app (goodIn_of _ (by decide +kernel)) ggX6_spreads_X6_portState
set_option maxRecDepth 20000 in
theorem ggX6_spreads_X6_waysOf : GoodIn wsX6_spreads wsX6_waysOf := goodIn_r _ [11, 12, 13, 7, 14, 15, 16, 17] (by decide +kernel) (by decide +kernel)
set_option maxRecDepth 20000 in
theorem gX6_spreads_X6_waysOf : GoodIn wsX6_spreads (va_wsS RX6 128 yX6_waysOf wsX6_waysOf) := goodIn_app (goodIn_of _ (by decide +kernel)) ggX6_spreads_X6_waysOf
set_option maxRecDepth 20000 in
theorem ggX6_spreads_X6_goes : GoodIn wsX6_spreads wsX6_goes := goodIn_r _ [20, 15, 16, 7, 17, 12, 13, 14, 21, 22, 23, 24, 25, 26] (by decide +kernel) (by decide +kernel)
set_option maxRecDepth 20000 in
theorem gX6_spreads_X6_goes : GoodIn wsX6_spreads (va_wsS RX6 131 yX6_goes wsX6_goes) := goodIn_app (goodIn_of _ (by decide +kernel)) ggX6_spreads_X6_goes
theorem dX6_spreads_0 : decode cX6_spreads 0 = .ok (.iconst 0, 1) := by decide +kernel
theorem dX6_spreads_1 : decode cX6_spreads 1 = .ok (.istore_n 2, 1) := by decide +kernel
theorem dX6_spreads_2 : decode cX6_spreads 2 = .ok (.iload_n 2, 1) := by decide +kernel
theorem dX6_spreads_3 : decode cX6_spreads 3 = .ok (.bipush 80, 2) := by decide +kernel
theorem dX6_spreads_5 : decode cX6_spreads 5 = .ok (.if_icmp .ge 17, 3) := by decide +kernel
theorem dX6_spreads_8 : decode cX6_spreads 8 = .ok (.aload_n 0, 1) := by decide +kernel
theorem dX6_spreads_9 : decode cX6_spreads 9 = .ok (.getfield 45, 3) := by decide +kernel
theorem dX6_spreads_12 : decode cX6_spreads 12 = .ok (.iload_n 2, 1) := by decide +kernel
theorem dX6_spreads_13 : decode cX6_spreads 13 = .ok (.bipush (-4), 2) := by decide +kernel
theorem dX6_spreads_15 : decode cX6_spreads 15 = .ok (.iastore, 1) := by decide +kernel
theorem dX6_spreads_16 : decode cX6_spreads 16 = .ok (.iinc 2 1, 3) := by decide +kernel
theorem dX6_spreads_19 : decode cX6_spreads 19 = .ok (.goto (-17), 3) := by decide +kernel
theorem dX6_spreads_22 : decode cX6_spreads 22 = .ok (.aload_n 0, 1) := by decide +kernel
theorem dX6_spreads_23 : decode cX6_spreads 23 = .ok (.getfield 42, 3) := by decide +kernel
theorem dX6_spreads_26 : decode cX6_spreads 26 = .ok (.iconst 0, 1) := by decide +kernel
theorem dX6_spreads_27 : decode cX6_spreads 27 = .ok (.aload_n 0, 1) := by decide +kernel
theorem dX6_spreads_28 : decode cX6_spreads 28 = .ok (.getfield 7, 3) := by decide +kernel
theorem dX6_spreads_31 : decode cX6_spreads 31 = .ok (.iload_n 1, 1) := by decide +kernel
theorem dX6_spreads_32 : decode cX6_spreads 32 = .ok (.invokestatic 117, 3) := by decide +kernel
theorem dX6_spreads_35 : decode cX6_spreads 35 = .ok (.iastore, 1) := by decide +kernel
theorem dX6_spreads_36 : decode cX6_spreads 36 = .ok (.aload_n 0, 1) := by decide +kernel
theorem dX6_spreads_37 : decode cX6_spreads 37 = .ok (.getfield 45, 3) := by decide +kernel
theorem dX6_spreads_40 : decode cX6_spreads 40 = .ok (.aload_n 0, 1) := by decide +kernel
theorem dX6_spreads_41 : decode cX6_spreads 41 = .ok (.getfield 42, 3) := by decide +kernel
theorem dX6_spreads_44 : decode cX6_spreads 44 = .ok (.iconst 0, 1) := by decide +kernel
theorem dX6_spreads_45 : decode cX6_spreads 45 = .ok (.iaload, 1) := by decide +kernel
theorem dX6_spreads_46 : decode cX6_spreads 46 = .ok (.iconst 1, 1) := by decide +kernel
theorem dX6_spreads_47 : decode cX6_spreads 47 = .ok (.iastore, 1) := by decide +kernel
theorem dX6_spreads_48 : decode cX6_spreads 48 = .ok (.aload_n 0, 1) := by decide +kernel
theorem dX6_spreads_49 : decode cX6_spreads 49 = .ok (.iconst 1, 1) := by decide +kernel
theorem dX6_spreads_50 : decode cX6_spreads 50 = .ok (.putfield 184, 3) := by decide +kernel
theorem dX6_spreads_53 : decode cX6_spreads 53 = .ok (.iconst 0, 1) := by decide +kernel
theorem dX6_spreads_54 : decode cX6_spreads 54 = .ok (.istore_n 2, 1) := by decide +kernel
theorem dX6_spreads_55 : decode cX6_spreads 55 = .ok (.iload_n 2, 1) := by decide +kernel
theorem dX6_spreads_56 : decode cX6_spreads 56 = .ok (.aload_n 0, 1) := by decide +kernel
theorem dX6_spreads_57 : decode cX6_spreads 57 = .ok (.getfield 184, 3) := by decide +kernel
theorem dX6_spreads_60 : decode cX6_spreads 60 = .ok (.if_icmp .ge 103, 3) := by decide +kernel
theorem dX6_spreads_63 : decode cX6_spreads 63 = .ok (.aload_n 0, 1) := by decide +kernel
theorem dX6_spreads_64 : decode cX6_spreads 64 = .ok (.getfield 42, 3) := by decide +kernel
theorem dX6_spreads_67 : decode cX6_spreads 67 = .ok (.iload_n 2, 1) := by decide +kernel
theorem dX6_spreads_68 : decode cX6_spreads 68 = .ok (.iaload, 1) := by decide +kernel
theorem dX6_spreads_69 : decode cX6_spreads 69 = .ok (.istore_n 3, 1) := by decide +kernel
theorem dX6_spreads_70 : decode cX6_spreads 70 = .ok (.iconst 0, 1) := by decide +kernel
theorem dX6_spreads_71 : decode cX6_spreads 71 = .ok (.istore 4, 2) := by decide +kernel
theorem dX6_spreads_73 : decode cX6_spreads 73 = .ok (.iload 4, 2) := by decide +kernel
theorem dX6_spreads_75 : decode cX6_spreads 75 = .ok (.aload_n 0, 1) := by decide +kernel
theorem dX6_spreads_76 : decode cX6_spreads 76 = .ok (.getfield 7, 3) := by decide +kernel
theorem dX6_spreads_79 : decode cX6_spreads 79 = .ok (.iload_n 3, 1) := by decide +kernel
theorem dX6_spreads_80 : decode cX6_spreads 80 = .ok (.invokestatic 128, 3) := by decide +kernel
theorem dX6_spreads_83 : decode cX6_spreads 83 = .ok (.if_icmp .ge 74, 3) := by decide +kernel
theorem dX6_spreads_86 : decode cX6_spreads 86 = .ok (.aload_n 0, 1) := by decide +kernel
theorem dX6_spreads_87 : decode cX6_spreads 87 = .ok (.getfield 7, 3) := by decide +kernel
theorem dX6_spreads_90 : decode cX6_spreads 90 = .ok (.iload_n 3, 1) := by decide +kernel
theorem dX6_spreads_91 : decode cX6_spreads 91 = .ok (.iload 4, 2) := by decide +kernel
theorem dX6_spreads_93 : decode cX6_spreads 93 = .ok (.invokestatic 131, 3) := by decide +kernel
theorem dX6_spreads_96 : decode cX6_spreads 96 = .ok (.istore 5, 2) := by decide +kernel
theorem dX6_spreads_98 : decode cX6_spreads 98 = .ok (.iload 5, 2) := by decide +kernel
theorem dX6_spreads_100 : decode cX6_spreads 100 = .ok (.ifCond .lt 51, 3) := by decide +kernel
theorem dX6_spreads_103 : decode cX6_spreads 103 = .ok (.aload_n 0, 1) := by decide +kernel
theorem dX6_spreads_104 : decode cX6_spreads 104 = .ok (.getfield 45, 3) := by decide +kernel
theorem dX6_spreads_107 : decode cX6_spreads 107 = .ok (.iload 5, 2) := by decide +kernel
theorem dX6_spreads_109 : decode cX6_spreads 109 = .ok (.iaload, 1) := by decide +kernel
theorem dX6_spreads_110 : decode cX6_spreads 110 = .ok (.bipush (-4), 2) := by decide +kernel
theorem dX6_spreads_112 : decode cX6_spreads 112 = .ok (.if_icmp .ne 39, 3) := by decide +kernel
theorem dX6_spreads_115 : decode cX6_spreads 115 = .ok (.aload_n 0, 1) := by decide +kernel
theorem dX6_spreads_116 : decode cX6_spreads 116 = .ok (.getfield 45, 3) := by decide +kernel
theorem dX6_spreads_119 : decode cX6_spreads 119 = .ok (.iload 5, 2) := by decide +kernel
theorem dX6_spreads_121 : decode cX6_spreads 121 = .ok (.aload_n 0, 1) := by decide +kernel
theorem dX6_spreads_122 : decode cX6_spreads 122 = .ok (.getfield 45, 3) := by decide +kernel
theorem dX6_spreads_125 : decode cX6_spreads 125 = .ok (.iload_n 3, 1) := by decide +kernel
theorem dX6_spreads_126 : decode cX6_spreads 126 = .ok (.iaload, 1) := by decide +kernel
theorem dX6_spreads_127 : decode cX6_spreads 127 = .ok (.iconst 1, 1) := by decide +kernel
theorem dX6_spreads_128 : decode cX6_spreads 128 = .ok (.iadd, 1) := by decide +kernel
theorem dX6_spreads_129 : decode cX6_spreads 129 = .ok (.iastore, 1) := by decide +kernel
theorem dX6_spreads_130 : decode cX6_spreads 130 = .ok (.aload_n 0, 1) := by decide +kernel
theorem dX6_spreads_131 : decode cX6_spreads 131 = .ok (.getfield 42, 3) := by decide +kernel
theorem dX6_spreads_134 : decode cX6_spreads 134 = .ok (.aload_n 0, 1) := by decide +kernel
theorem dX6_spreads_135 : decode cX6_spreads 135 = .ok (.getfield 184, 3) := by decide +kernel
theorem dX6_spreads_138 : decode cX6_spreads 138 = .ok (.iload 5, 2) := by decide +kernel
theorem dX6_spreads_140 : decode cX6_spreads 140 = .ok (.iastore, 1) := by decide +kernel
theorem dX6_spreads_141 : decode cX6_spreads 141 = .ok (.aload_n 0, 1) := by decide +kernel
theorem dX6_spreads_142 : decode cX6_spreads 142 = .ok (.dup, 1) := by decide +kernel
theorem dX6_spreads_143 : decode cX6_spreads 143 = .ok (.getfield 184, 3) := by decide +kernel
theorem dX6_spreads_146 : decode cX6_spreads 146 = .ok (.iconst 1, 1) := by decide +kernel
theorem dX6_spreads_147 : decode cX6_spreads 147 = .ok (.iadd, 1) := by decide +kernel
theorem dX6_spreads_148 : decode cX6_spreads 148 = .ok (.putfield 184, 3) := by decide +kernel
theorem dX6_spreads_151 : decode cX6_spreads 151 = .ok (.iinc 4 1, 3) := by decide +kernel
theorem dX6_spreads_154 : decode cX6_spreads 154 = .ok (.goto (-81), 3) := by decide +kernel
theorem dX6_spreads_157 : decode cX6_spreads 157 = .ok (.iinc 2 1, 3) := by decide +kernel
theorem dX6_spreads_160 : decode cX6_spreads 160 = .ok (.goto (-105), 3) := by decide +kernel
theorem dX6_spreads_163 : decode cX6_spreads 163 = .ok (.return_, 1) := by decide +kernel
set_option maxRecDepth 20000 in
theorem ggX6_lit_X6_isPort : GoodIn wsX6_lit wsX6_isPort := goodIn_r _ [7, 8, 9, 10, 6, 11, 12, 13, 14, 38, 39, 40, 41, 42, 43, 44, 45, 46, 47, 48, 49, 50, 51, 52, 53, 54, 55, 56] (by decide +kernel) (by decide +kernel)
set_option maxRecDepth 20000 in
theorem gX6_lit_X6_isPort : GoodIn wsX6_lit (wsV RX6 114 RX6 yX6_isPort wsX6_isPort) := goodIn_app (goodIn_of _ (by decide +kernel)) ggX6_lit_X6_isPort
set_option maxRecDepth 20000 in
theorem ggX6_lit_X6_spreads : GoodIn wsX6_lit wsX6_spreads := goodIn_r _ [18, 19, 2, 8, 1, 20, 21, 6, 22, 23, 24, 25, 26, 27, 28, 12, 13, 14, 29, 30, 31, 32, 33, 34, 35, 36, 37, 38, 39, 40, 41, 42, 43, 44, 45, 46, 47, 48, 49, 50, 51, 52, 53, 54, 55, 56] (by decide +kernel) (by decide +kernel)
set_option maxRecDepth 20000 in
theorem gX6_lit_X6_spreads : GoodIn wsX6_lit (wsV RX6 187 RX6 yX6_spreads wsX6_spreads) := goodIn_app (goodIn_of _ (by decide +kernel)) ggX6_lit_X6_spreads
theorem dX6_lit_0 : decode cX6_lit 0 = .ok (.aload_n 0, 1) := by decide +kernel
theorem dX6_lit_1 : decode cX6_lit 1 = .ok (.iload_n 1, 1) := by decide +kernel
theorem dX6_lit_2 : decode cX6_lit 2 = .ok (.invokevirtual 114, 3) := by decide +kernel
theorem dX6_lit_5 : decode cX6_lit 5 = .ok (.ifCond .ne 5, 3) := by decide +kernel
theorem dX6_lit_8 : decode cX6_lit 8 = .ok (.iconst (-1), 1) := by decide +kernel
theorem dX6_lit_9 : decode cX6_lit 9 = .ok (.ireturn, 1) := by decide +kernel
theorem dX6_lit_10 : decode cX6_lit 10 = .ok (.aload_n 0, 1) := by decide +kernel
theorem dX6_lit_11 : decode cX6_lit 11 = .ok (.iload_n 1, 1) := by decide +kernel
theorem dX6_lit_12 : decode cX6_lit 12 = .ok (.invokevirtual 187, 3) := by decide +kernel
theorem dX6_lit_15 : decode cX6_lit 15 = .ok (.iconst 0, 1) := by decide +kernel
theorem dX6_lit_16 : decode cX6_lit 16 = .ok (.istore_n 2, 1) := by decide +kernel
theorem dX6_lit_17 : decode cX6_lit 17 = .ok (.iconst 0, 1) := by decide +kernel
theorem dX6_lit_18 : decode cX6_lit 18 = .ok (.istore_n 3, 1) := by decide +kernel
theorem dX6_lit_19 : decode cX6_lit 19 = .ok (.iload_n 3, 1) := by decide +kernel
theorem dX6_lit_20 : decode cX6_lit 20 = .ok (.aload_n 0, 1) := by decide +kernel
theorem dX6_lit_21 : decode cX6_lit 21 = .ok (.getfield 184, 3) := by decide +kernel
theorem dX6_lit_24 : decode cX6_lit 24 = .ok (.if_icmp .ge 22, 3) := by decide +kernel
theorem dX6_lit_27 : decode cX6_lit 27 = .ok (.iload_n 2, 1) := by decide +kernel
theorem dX6_lit_28 : decode cX6_lit 28 = .ok (.iconst 1, 1) := by decide +kernel
theorem dX6_lit_29 : decode cX6_lit 29 = .ok (.aload_n 0, 1) := by decide +kernel
theorem dX6_lit_30 : decode cX6_lit 30 = .ok (.getfield 42, 3) := by decide +kernel
theorem dX6_lit_33 : decode cX6_lit 33 = .ok (.iload_n 3, 1) := by decide +kernel
theorem dX6_lit_34 : decode cX6_lit 34 = .ok (.iaload, 1) := by decide +kernel
theorem dX6_lit_35 : decode cX6_lit 35 = .ok (.iconst 4, 1) := by decide +kernel
theorem dX6_lit_36 : decode cX6_lit 36 = .ok (.idiv, 1) := by decide +kernel
theorem dX6_lit_37 : decode cX6_lit 37 = .ok (.ishl, 1) := by decide +kernel
theorem dX6_lit_38 : decode cX6_lit 38 = .ok (.ior, 1) := by decide +kernel
theorem dX6_lit_39 : decode cX6_lit 39 = .ok (.istore_n 2, 1) := by decide +kernel
theorem dX6_lit_40 : decode cX6_lit 40 = .ok (.iinc 3 1, 3) := by decide +kernel
theorem dX6_lit_43 : decode cX6_lit 43 = .ok (.goto (-24), 3) := by decide +kernel
theorem dX6_lit_46 : decode cX6_lit 46 = .ok (.iload_n 2, 1) := by decide +kernel
theorem dX6_lit_47 : decode cX6_lit 47 = .ok (.ireturn, 1) := by decide +kernel
set_option maxRecDepth 20000 in
theorem ggX6_far_X6_isPort : GoodIn wsX6_far wsX6_isPort := goodIn_r _ [9, 2, 10, 11, 8, 12, 13, 14, 15, 38, 39, 40, 41, 42, 43, 44, 45, 46, 47, 48, 49, 50, 51, 52, 53, 54, 55, 56] (by decide +kernel) (by decide +kernel)
set_option maxRecDepth 20000 in
theorem gX6_far_X6_isPort : GoodIn wsX6_far (wsV RX6 114 RX6 yX6_isPort wsX6_isPort) := goodIn_app (goodIn_of _ (by decide +kernel)) ggX6_far_X6_isPort
set_option maxRecDepth 20000 in
theorem ggX6_far_X6_spreads : GoodIn wsX6_far wsX6_spreads := goodIn_r _ [19, 4, 3, 2, 1, 20, 21, 8, 22, 23, 24, 25, 26, 27, 28, 13, 14, 15, 29, 30, 31, 32, 33, 34, 35, 36, 37, 38, 39, 40, 41, 42, 43, 44, 45, 46, 47, 48, 49, 50, 51, 52, 53, 54, 55, 56] (by decide +kernel) (by decide +kernel)
set_option maxRecDepth 20000 in
theorem gX6_far_X6_spreads : GoodIn wsX6_far (wsV RX6 187 RX6 yX6_spreads wsX6_spreads) := goodIn_app (goodIn_of _ (by decide +kernel)) ggX6_far_X6_spreads
set_option maxRecDepth 20000 in
theorem ggX6_far_X6_waysOf : GoodIn wsX6_far wsX6_waysOf := goodIn_r _ [25, 26, 27, 8, 28, 13, 14, 15] (by decide +kernel) (by decide +kernel)
set_option maxRecDepth 20000 in
theorem gX6_far_X6_waysOf : GoodIn wsX6_far (va_wsS RX6 128 yX6_waysOf wsX6_waysOf) := goodIn_app (goodIn_of _ (by decide +kernel)) ggX6_far_X6_waysOf
set_option maxRecDepth 20000 in
theorem ggX6_far_X6_goes : GoodIn wsX6_far wsX6_goes := goodIn_r _ [31, 13, 14, 8, 15, 26, 27, 28, 32, 33, 34, 35, 36, 37] (by decide +kernel) (by decide +kernel)
set_option maxRecDepth 20000 in
theorem gX6_far_X6_goes : GoodIn wsX6_far (va_wsS RX6 131 yX6_goes wsX6_goes) := goodIn_app (goodIn_of _ (by decide +kernel)) ggX6_far_X6_goes
theorem dX6_far_0 : decode cX6_far 0 = .ok (.aload_n 0, 1) := by decide +kernel
theorem dX6_far_1 : decode cX6_far 1 = .ok (.iload_n 1, 1) := by decide +kernel
theorem dX6_far_2 : decode cX6_far 2 = .ok (.invokevirtual 114, 3) := by decide +kernel
theorem dX6_far_5 : decode cX6_far 5 = .ok (.ifCond .eq 11, 3) := by decide +kernel
theorem dX6_far_8 : decode cX6_far 8 = .ok (.aload_n 0, 1) := by decide +kernel
theorem dX6_far_9 : decode cX6_far 9 = .ok (.iload_n 2, 1) := by decide +kernel
theorem dX6_far_10 : decode cX6_far 10 = .ok (.invokevirtual 114, 3) := by decide +kernel
theorem dX6_far_13 : decode cX6_far 13 = .ok (.ifCond .ne 5, 3) := by decide +kernel
theorem dX6_far_16 : decode cX6_far 16 = .ok (.iconst (-1), 1) := by decide +kernel
theorem dX6_far_17 : decode cX6_far 17 = .ok (.ireturn, 1) := by decide +kernel
theorem dX6_far_18 : decode cX6_far 18 = .ok (.aload_n 0, 1) := by decide +kernel
theorem dX6_far_19 : decode cX6_far 19 = .ok (.iload_n 1, 1) := by decide +kernel
theorem dX6_far_20 : decode cX6_far 20 = .ok (.invokevirtual 187, 3) := by decide +kernel
theorem dX6_far_23 : decode cX6_far 23 = .ok (.iconst 0, 1) := by decide +kernel
theorem dX6_far_24 : decode cX6_far 24 = .ok (.istore_n 3, 1) := by decide +kernel
theorem dX6_far_25 : decode cX6_far 25 = .ok (.iload_n 3, 1) := by decide +kernel
theorem dX6_far_26 : decode cX6_far 26 = .ok (.aload_n 0, 1) := by decide +kernel
theorem dX6_far_27 : decode cX6_far 27 = .ok (.getfield 184, 3) := by decide +kernel
theorem dX6_far_30 : decode cX6_far 30 = .ok (.if_icmp .ge 70, 3) := by decide +kernel
theorem dX6_far_33 : decode cX6_far 33 = .ok (.iconst 0, 1) := by decide +kernel
theorem dX6_far_34 : decode cX6_far 34 = .ok (.istore 4, 2) := by decide +kernel
theorem dX6_far_36 : decode cX6_far 36 = .ok (.iload 4, 2) := by decide +kernel
theorem dX6_far_38 : decode cX6_far 38 = .ok (.aload_n 0, 1) := by decide +kernel
theorem dX6_far_39 : decode cX6_far 39 = .ok (.getfield 7, 3) := by decide +kernel
theorem dX6_far_42 : decode cX6_far 42 = .ok (.aload_n 0, 1) := by decide +kernel
theorem dX6_far_43 : decode cX6_far 43 = .ok (.getfield 42, 3) := by decide +kernel
theorem dX6_far_46 : decode cX6_far 46 = .ok (.iload_n 3, 1) := by decide +kernel
theorem dX6_far_47 : decode cX6_far 47 = .ok (.iaload, 1) := by decide +kernel
theorem dX6_far_48 : decode cX6_far 48 = .ok (.invokestatic 128, 3) := by decide +kernel
theorem dX6_far_51 : decode cX6_far 51 = .ok (.if_icmp .ge 43, 3) := by decide +kernel
theorem dX6_far_54 : decode cX6_far 54 = .ok (.aload_n 0, 1) := by decide +kernel
theorem dX6_far_55 : decode cX6_far 55 = .ok (.getfield 7, 3) := by decide +kernel
theorem dX6_far_58 : decode cX6_far 58 = .ok (.aload_n 0, 1) := by decide +kernel
theorem dX6_far_59 : decode cX6_far 59 = .ok (.getfield 42, 3) := by decide +kernel
theorem dX6_far_62 : decode cX6_far 62 = .ok (.iload_n 3, 1) := by decide +kernel
theorem dX6_far_63 : decode cX6_far 63 = .ok (.iaload, 1) := by decide +kernel
theorem dX6_far_64 : decode cX6_far 64 = .ok (.iload 4, 2) := by decide +kernel
theorem dX6_far_66 : decode cX6_far 66 = .ok (.invokestatic 131, 3) := by decide +kernel
theorem dX6_far_69 : decode cX6_far 69 = .ok (.bipush (-2), 2) := by decide +kernel
theorem dX6_far_71 : decode cX6_far 71 = .ok (.iload_n 2, 1) := by decide +kernel
theorem dX6_far_72 : decode cX6_far 72 = .ok (.isub, 1) := by decide +kernel
theorem dX6_far_73 : decode cX6_far 73 = .ok (.if_icmp .ne 15, 3) := by decide +kernel
theorem dX6_far_76 : decode cX6_far 76 = .ok (.aload_n 0, 1) := by decide +kernel
theorem dX6_far_77 : decode cX6_far 77 = .ok (.getfield 45, 3) := by decide +kernel
theorem dX6_far_80 : decode cX6_far 80 = .ok (.aload_n 0, 1) := by decide +kernel
theorem dX6_far_81 : decode cX6_far 81 = .ok (.getfield 42, 3) := by decide +kernel
theorem dX6_far_84 : decode cX6_far 84 = .ok (.iload_n 3, 1) := by decide +kernel
theorem dX6_far_85 : decode cX6_far 85 = .ok (.iaload, 1) := by decide +kernel
theorem dX6_far_86 : decode cX6_far 86 = .ok (.iaload, 1) := by decide +kernel
theorem dX6_far_87 : decode cX6_far 87 = .ok (.ireturn, 1) := by decide +kernel
theorem dX6_far_88 : decode cX6_far 88 = .ok (.iinc 4 1, 3) := by decide +kernel
theorem dX6_far_91 : decode cX6_far 91 = .ok (.goto (-55), 3) := by decide +kernel
theorem dX6_far_94 : decode cX6_far 94 = .ok (.iinc 3 1, 3) := by decide +kernel
theorem dX6_far_97 : decode cX6_far 97 = .ok (.goto (-72), 3) := by decide +kernel
theorem dX6_far_100 : decode cX6_far 100 = .ok (.bipush (-4), 2) := by decide +kernel
theorem dX6_far_102 : decode cX6_far 102 = .ok (.ireturn, 1) := by decide +kernel
set_option maxRecDepth 20000 in
theorem ggX6_alike_X6_isPort : GoodIn wsX6_alike wsX6_isPort := goodIn_r _ [5, 6, 7, 8, 4, 9, 10, 11, 12, 74, 75, 76, 77, 78, 79, 80, 81, 82, 83, 84, 85, 86, 87, 88, 89, 90, 91, 92] (by decide +kernel) (by decide +kernel)
set_option maxRecDepth 20000 in
theorem gX6_alike_X6_isPort : GoodIn wsX6_alike (wsV RX6 114 RX6 yX6_isPort wsX6_isPort) := goodIn_app (goodIn_of _ (by decide +kernel)) ggX6_alike_X6_isPort
set_option maxRecDepth 20000 in
theorem ggX6_alike_X6_lostOf : GoodIn wsX6_alike wsX6_lostOf := goodIn_r _ [16, 6, 17, 18, 19, 20, 21, 4, 22, 23, 24, 25, 26, 27, 28, 29, 30, 31, 32, 33, 34, 35, 10, 11, 12, 36, 37, 38, 39, 40, 41, 42, 43, 44, 45, 46, 47, 48, 49, 50, 51, 52, 53, 54, 55, 56, 57, 58, 59, 60, 61, 62, 63, 64, 65, 66, 67, 68, 69, 70, 71, 72, 73, 74, 75, 76, 77, 78, 79, 80, 81, 82, 83, 84, 85, 86, 87, 88, 89, 90, 91, 92] (by decide +kernel) (by decide +kernel)
set_option maxRecDepth 20000 in
theorem gX6_alike_X6_lostOf : GoodIn wsX6_alike (wsV RX6 174 RX6 yX6_lostOf wsX6_lostOf) := goodIn_app (goodIn_of _ (by decide +kernel)) ggX6_alike_X6_lostOf
theorem dX6_alike_0 : decode cX6_alike 0 = .ok (.aload_n 0, 1) := by decide +kernel
theorem dX6_alike_1 : decode cX6_alike 1 = .ok (.iload_n 1, 1) := by decide +kernel
theorem dX6_alike_2 : decode cX6_alike 2 = .ok (.invokevirtual 114, 3) := by decide +kernel
theorem dX6_alike_5 : decode cX6_alike 5 = .ok (.ifCond .eq 11, 3) := by decide +kernel
theorem dX6_alike_8 : decode cX6_alike 8 = .ok (.aload_n 0, 1) := by decide +kernel
theorem dX6_alike_9 : decode cX6_alike 9 = .ok (.iload_n 2, 1) := by decide +kernel
theorem dX6_alike_10 : decode cX6_alike 10 = .ok (.invokevirtual 114, 3) := by decide +kernel
theorem dX6_alike_13 : decode cX6_alike 13 = .ok (.ifCond .ne 5, 3) := by decide +kernel
theorem dX6_alike_16 : decode cX6_alike 16 = .ok (.iconst (-1), 1) := by decide +kernel
theorem dX6_alike_17 : decode cX6_alike 17 = .ok (.ireturn, 1) := by decide +kernel
theorem dX6_alike_18 : decode cX6_alike 18 = .ok (.iconst 1, 1) := by decide +kernel
theorem dX6_alike_19 : decode cX6_alike 19 = .ok (.istore_n 3, 1) := by decide +kernel
theorem dX6_alike_20 : decode cX6_alike 20 = .ok (.iconst 0, 1) := by decide +kernel
theorem dX6_alike_21 : decode cX6_alike 21 = .ok (.istore 4, 2) := by decide +kernel
theorem dX6_alike_23 : decode cX6_alike 23 = .ok (.iload 4, 2) := by decide +kernel
theorem dX6_alike_25 : decode cX6_alike 25 = .ok (.iconst 4, 1) := by decide +kernel
theorem dX6_alike_26 : decode cX6_alike 26 = .ok (.if_icmp .ge 37, 3) := by decide +kernel
theorem dX6_alike_29 : decode cX6_alike 29 = .ok (.iload_n 3, 1) := by decide +kernel
theorem dX6_alike_30 : decode cX6_alike 30 = .ok (.ifCond .eq 25, 3) := by decide +kernel
theorem dX6_alike_33 : decode cX6_alike 33 = .ok (.aload_n 0, 1) := by decide +kernel
theorem dX6_alike_34 : decode cX6_alike 34 = .ok (.iload_n 1, 1) := by decide +kernel
theorem dX6_alike_35 : decode cX6_alike 35 = .ok (.iload 4, 2) := by decide +kernel
theorem dX6_alike_37 : decode cX6_alike 37 = .ok (.invokevirtual 174, 3) := by decide +kernel
theorem dX6_alike_40 : decode cX6_alike 40 = .ok (.aload_n 0, 1) := by decide +kernel
theorem dX6_alike_41 : decode cX6_alike 41 = .ok (.iload_n 2, 1) := by decide +kernel
theorem dX6_alike_42 : decode cX6_alike 42 = .ok (.iload 4, 2) := by decide +kernel
theorem dX6_alike_44 : decode cX6_alike 44 = .ok (.invokevirtual 174, 3) := by decide +kernel
theorem dX6_alike_47 : decode cX6_alike 47 = .ok (.lcmp, 1) := by decide +kernel
theorem dX6_alike_48 : decode cX6_alike 48 = .ok (.ifCond .ne 7, 3) := by decide +kernel
theorem dX6_alike_51 : decode cX6_alike 51 = .ok (.iconst 1, 1) := by decide +kernel
theorem dX6_alike_52 : decode cX6_alike 52 = .ok (.goto 4, 3) := by decide +kernel
theorem dX6_alike_55 : decode cX6_alike 55 = .ok (.iconst 0, 1) := by decide +kernel
theorem dX6_alike_56 : decode cX6_alike 56 = .ok (.istore_n 3, 1) := by decide +kernel
theorem dX6_alike_57 : decode cX6_alike 57 = .ok (.iinc 4 1, 3) := by decide +kernel
theorem dX6_alike_60 : decode cX6_alike 60 = .ok (.goto (-37), 3) := by decide +kernel
theorem dX6_alike_63 : decode cX6_alike 63 = .ok (.iload_n 3, 1) := by decide +kernel
theorem dX6_alike_64 : decode cX6_alike 64 = .ok (.ifCond .eq 7, 3) := by decide +kernel
theorem dX6_alike_67 : decode cX6_alike 67 = .ok (.iconst 1, 1) := by decide +kernel
theorem dX6_alike_68 : decode cX6_alike 68 = .ok (.goto 4, 3) := by decide +kernel
theorem dX6_alike_71 : decode cX6_alike 71 = .ok (.iconst 0, 1) := by decide +kernel
theorem dX6_alike_72 : decode cX6_alike 72 = .ok (.ireturn, 1) := by decide +kernel
theorem dX6_ones_0 : decode cX6_ones 0 = .ok (.iconst 0, 1) := by decide +kernel
theorem dX6_ones_1 : decode cX6_ones 1 = .ok (.istore_n 1, 1) := by decide +kernel
theorem dX6_ones_2 : decode cX6_ones 2 = .ok (.iconst 0, 1) := by decide +kernel
theorem dX6_ones_3 : decode cX6_ones 3 = .ok (.istore_n 2, 1) := by decide +kernel
theorem dX6_ones_4 : decode cX6_ones 4 = .ok (.iload_n 2, 1) := by decide +kernel
theorem dX6_ones_5 : decode cX6_ones 5 = .ok (.iconst 4, 1) := by decide +kernel
theorem dX6_ones_6 : decode cX6_ones 6 = .ok (.if_icmp .ge 17, 3) := by decide +kernel
theorem dX6_ones_9 : decode cX6_ones 9 = .ok (.iload_n 1, 1) := by decide +kernel
theorem dX6_ones_10 : decode cX6_ones 10 = .ok (.iload_n 0, 1) := by decide +kernel
theorem dX6_ones_11 : decode cX6_ones 11 = .ok (.iload_n 2, 1) := by decide +kernel
theorem dX6_ones_12 : decode cX6_ones 12 = .ok (.ishr, 1) := by decide +kernel
theorem dX6_ones_13 : decode cX6_ones 13 = .ok (.iconst 1, 1) := by decide +kernel
theorem dX6_ones_14 : decode cX6_ones 14 = .ok (.iand, 1) := by decide +kernel
theorem dX6_ones_15 : decode cX6_ones 15 = .ok (.iadd, 1) := by decide +kernel
theorem dX6_ones_16 : decode cX6_ones 16 = .ok (.istore_n 1, 1) := by decide +kernel
theorem dX6_ones_17 : decode cX6_ones 17 = .ok (.iinc 2 1, 3) := by decide +kernel
theorem dX6_ones_20 : decode cX6_ones 20 = .ok (.goto (-16), 3) := by decide +kernel
theorem dX6_ones_23 : decode cX6_ones 23 = .ok (.iload_n 1, 1) := by decide +kernel
theorem dX6_ones_24 : decode cX6_ones 24 = .ok (.ireturn, 1) := by decide +kernel
set_option maxRecDepth 20000 in
theorem ggX6_best_X6_isPort : GoodIn wsX6_best wsX6_isPort := goodIn_r _ [10, 2, 11, 12, 9, 13, 14, 15, 16, 90, 91, 92, 93, 94, 95, 96, 97, 98, 99, 100, 101, 102, 103, 104, 105, 106, 107, 108] (by decide +kernel) (by decide +kernel)
set_option maxRecDepth 20000 in
theorem gX6_best_X6_isPort : GoodIn wsX6_best (wsV RX6 114 RX6 yX6_isPort wsX6_isPort) := goodIn_app (goodIn_of _ (by decide +kernel)) ggX6_best_X6_isPort
set_option maxRecDepth 20000 in
theorem ggX6_best_X6_in : GoodIn wsX6_best wsX6_in := goodIn_r _ [16] (by decide +kernel) (by decide +kernel)
set_option maxRecDepth 20000 in
theorem gX6_best_X6_in : GoodIn wsX6_best (va_wsS RX6 48 yX6_in wsX6_in) := goodIn_app (goodIn_of _ (by decide +kernel)) ggX6_best_X6_in
set_option maxRecDepth 20000 in
theorem ggX6_best_X6_doors : GoodIn wsX6_best wsX6_doors := goodIn_r _ [19, 20, 21, 9, 22, 23, 24, 25, 14, 15, 16] (by decide +kernel) (by decide +kernel)
set_option maxRecDepth 20000 in
theorem gX6_best_X6_doors : GoodIn wsX6_best (va_wsS RX6 77 yX6_doors wsX6_doors) := goodIn_app (goodIn_of _ (by decide +kernel)) ggX6_best_X6_doors
set_option maxRecDepth 20000 in
theorem ggX6_best_X6_copies : GoodIn wsX6_best wsX6_copies := goodIn_r _ [28] (by decide +kernel) (by decide +kernel)
set_option maxRecDepth 20000 in
theorem gX6_best_X6_copies : GoodIn wsX6_best (va_wsS RX6 88 yX6_copies wsX6_copies) := goodIn_app (goodIn_of _ (by decide +kernel)) ggX6_best_X6_copies
set_option maxRecDepth 20000 in
theorem ggX6_best_X6_doorCell : GoodIn wsX6_best wsX6_doorCell := goodIn_r _ [31, 20, 21, 9, 22, 23, 24, 25, 14, 15, 16] (by decide +kernel) (by decide +kernel)
set_option maxRecDepth 20000 in
theorem gX6_best_X6_doorCell : GoodIn wsX6_best (va_wsS RX6 104 yX6_doorCell wsX6_doorCell) := goodIn_app (goodIn_of _ (by decide +kernel)) ggX6_best_X6_doorCell
set_option maxRecDepth 20000 in
theorem ggX6_best_X6_shares : GoodIn wsX6_best wsX6_shares := goodIn_r _ [35, 4, 5, 36, 37, 38, 9, 39, 40, 41, 42, 43, 44, 45, 46, 47, 48, 14, 15, 16, 49, 50, 51, 52, 53, 54, 55, 56, 57, 58, 59, 60, 61, 62, 63, 64, 65, 66, 67, 68, 69, 70, 71, 72, 73, 74, 75, 76, 77, 78, 79, 80, 81, 82, 83, 84, 85, 86, 90, 91, 92, 93, 94, 95, 96, 97, 98, 99, 100, 101, 102, 103, 104, 105, 106, 107, 108] (by decide +kernel) (by decide +kernel)
set_option maxRecDepth 20000 in
theorem gX6_best_X6_shares : GoodIn wsX6_best (wsV RX6 170 RX6 yX6_shares wsX6_shares) := goodIn_app (goodIn_of _ (by decide +kernel)) ggX6_best_X6_shares
set_option maxRecDepth 20000 in
theorem ggX6_best_X6_ones : GoodIn wsX6_best wsX6_ones := goodIn_r _ [89] (by decide +kernel) (by decide +kernel)
set_option maxRecDepth 20000 in
theorem gX6_best_X6_ones : GoodIn wsX6_best (va_wsS RX6 192 yX6_ones wsX6_ones) := goodIn_app (goodIn_of _ (by decide +kernel)) ggX6_best_X6_ones
theorem dX6_best_0 : decode cX6_best 0 = .ok (.aload_n 0, 1) := by decide +kernel
theorem dX6_best_1 : decode cX6_best 1 = .ok (.iload_n 1, 1) := by decide +kernel
theorem dX6_best_2 : decode cX6_best 2 = .ok (.invokevirtual 114, 3) := by decide +kernel
theorem dX6_best_5 : decode cX6_best 5 = .ok (.ifCond .eq 20, 3) := by decide +kernel
theorem dX6_best_8 : decode cX6_best 8 = .ok (.aload_n 0, 1) := by decide +kernel
theorem dX6_best_9 : decode cX6_best 9 = .ok (.iload_n 2, 1) := by decide +kernel
theorem dX6_best_10 : decode cX6_best 10 = .ok (.invokevirtual 114, 3) := by decide +kernel
theorem dX6_best_13 : decode cX6_best 13 = .ok (.ifCond .eq 12, 3) := by decide +kernel
theorem dX6_best_16 : decode cX6_best 16 = .ok (.iload_n 3, 1) := by decide +kernel
theorem dX6_best_17 : decode cX6_best 17 = .ok (.iconst 0, 1) := by decide +kernel
theorem dX6_best_18 : decode cX6_best 18 = .ok (.iconst 2, 1) := by decide +kernel
theorem dX6_best_19 : decode cX6_best 19 = .ok (.invokestatic 48, 3) := by decide +kernel
theorem dX6_best_22 : decode cX6_best 22 = .ok (.ifCond .ne 5, 3) := by decide +kernel
theorem dX6_best_25 : decode cX6_best 25 = .ok (.iconst (-1), 1) := by decide +kernel
theorem dX6_best_26 : decode cX6_best 26 = .ok (.ireturn, 1) := by decide +kernel
theorem dX6_best_27 : decode cX6_best 27 = .ok (.iconst 0, 1) := by decide +kernel
theorem dX6_best_28 : decode cX6_best 28 = .ok (.istore 4, 2) := by decide +kernel
theorem dX6_best_30 : decode cX6_best 30 = .ok (.ldc2_w 190, 3) := by decide +kernel
theorem dX6_best_33 : decode cX6_best 33 = .ok (.lstore 5, 2) := by decide +kernel
theorem dX6_best_35 : decode cX6_best 35 = .ok (.lconst 1, 1) := by decide +kernel
theorem dX6_best_36 : decode cX6_best 36 = .ok (.lstore 7, 2) := by decide +kernel
theorem dX6_best_38 : decode cX6_best 38 = .ok (.aload_n 0, 1) := by decide +kernel
theorem dX6_best_39 : decode cX6_best 39 = .ok (.getfield 7, 3) := by decide +kernel
theorem dX6_best_42 : decode cX6_best 42 = .ok (.invokestatic 77, 3) := by decide +kernel
theorem dX6_best_45 : decode cX6_best 45 = .ok (.istore 9, 2) := by decide +kernel
theorem dX6_best_47 : decode cX6_best 47 = .ok (.iconst 0, 1) := by decide +kernel
theorem dX6_best_48 : decode cX6_best 48 = .ok (.istore 10, 2) := by decide +kernel
theorem dX6_best_50 : decode cX6_best 50 = .ok (.iload 10, 2) := by decide +kernel
theorem dX6_best_52 : decode cX6_best 52 = .ok (.iconst 1, 1) := by decide +kernel
theorem dX6_best_53 : decode cX6_best 53 = .ok (.iload 9, 2) := by decide +kernel
theorem dX6_best_55 : decode cX6_best 55 = .ok (.ishl, 1) := by decide +kernel
theorem dX6_best_56 : decode cX6_best 56 = .ok (.if_icmp .ge 134, 3) := by decide +kernel
theorem dX6_best_59 : decode cX6_best 59 = .ok (.aload_n 0, 1) := by decide +kernel
theorem dX6_best_60 : decode cX6_best 60 = .ok (.getfield 7, 3) := by decide +kernel
theorem dX6_best_63 : decode cX6_best 63 = .ok (.iconst 0, 1) := by decide +kernel
theorem dX6_best_64 : decode cX6_best 64 = .ok (.aload_n 0, 1) := by decide +kernel
theorem dX6_best_65 : decode cX6_best 65 = .ok (.getfield 16, 3) := by decide +kernel
theorem dX6_best_68 : decode cX6_best 68 = .ok (.iconst 0, 1) := by decide +kernel
theorem dX6_best_69 : decode cX6_best 69 = .ok (.invokestatic 88, 3) := by decide +kernel
theorem dX6_best_72 : decode cX6_best 72 = .ok (.iconst 0, 1) := by decide +kernel
theorem dX6_best_73 : decode cX6_best 73 = .ok (.istore 11, 2) := by decide +kernel
theorem dX6_best_75 : decode cX6_best 75 = .ok (.iload 11, 2) := by decide +kernel
theorem dX6_best_77 : decode cX6_best 77 = .ok (.iload 9, 2) := by decide +kernel
theorem dX6_best_79 : decode cX6_best 79 = .ok (.if_icmp .ge 35, 3) := by decide +kernel
theorem dX6_best_82 : decode cX6_best 82 = .ok (.aload_n 0, 1) := by decide +kernel
theorem dX6_best_83 : decode cX6_best 83 = .ok (.getfield 16, 3) := by decide +kernel
theorem dX6_best_86 : decode cX6_best 86 = .ok (.iconst 2, 1) := by decide +kernel
theorem dX6_best_87 : decode cX6_best 87 = .ok (.aload_n 0, 1) := by decide +kernel
theorem dX6_best_88 : decode cX6_best 88 = .ok (.getfield 7, 3) := by decide +kernel
theorem dX6_best_91 : decode cX6_best 91 = .ok (.iload 11, 2) := by decide +kernel
theorem dX6_best_93 : decode cX6_best 93 = .ok (.invokestatic 104, 3) := by decide +kernel
theorem dX6_best_96 : decode cX6_best 96 = .ok (.iadd, 1) := by decide +kernel
theorem dX6_best_97 : decode cX6_best 97 = .ok (.bipush 7, 2) := by decide +kernel
theorem dX6_best_99 : decode cX6_best 99 = .ok (.iload 10, 2) := by decide +kernel
theorem dX6_best_101 : decode cX6_best 101 = .ok (.iload 11, 2) := by decide +kernel
theorem dX6_best_103 : decode cX6_best 103 = .ok (.ishr, 1) := by decide +kernel
theorem dX6_best_104 : decode cX6_best 104 = .ok (.iconst 1, 1) := by decide +kernel
theorem dX6_best_105 : decode cX6_best 105 = .ok (.iand, 1) := by decide +kernel
theorem dX6_best_106 : decode cX6_best 106 = .ok (.isub, 1) := by decide +kernel
theorem dX6_best_107 : decode cX6_best 107 = .ok (.iastore, 1) := by decide +kernel
theorem dX6_best_108 : decode cX6_best 108 = .ok (.iinc 11 1, 3) := by decide +kernel
theorem dX6_best_111 : decode cX6_best 111 = .ok (.goto (-36), 3) := by decide +kernel
theorem dX6_best_114 : decode cX6_best 114 = .ok (.aload_n 0, 1) := by decide +kernel
theorem dX6_best_115 : decode cX6_best 115 = .ok (.aload_n 0, 1) := by decide +kernel
theorem dX6_best_116 : decode cX6_best 116 = .ok (.getfield 16, 3) := by decide +kernel
theorem dX6_best_119 : decode cX6_best 119 = .ok (.iload_n 1, 1) := by decide +kernel
theorem dX6_best_120 : decode cX6_best 120 = .ok (.iload_n 2, 1) := by decide +kernel
theorem dX6_best_121 : decode cX6_best 121 = .ok (.invokevirtual 170, 3) := by decide +kernel
theorem dX6_best_124 : decode cX6_best 124 = .ok (.aload_n 0, 1) := by decide +kernel
theorem dX6_best_125 : decode cX6_best 125 = .ok (.getfield 146, 3) := by decide +kernel
theorem dX6_best_128 : decode cX6_best 128 = .ok (.lload 7, 2) := by decide +kernel
theorem dX6_best_130 : decode cX6_best 130 = .ok (.lmul, 1) := by decide +kernel
theorem dX6_best_131 : decode cX6_best 131 = .ok (.lload 5, 2) := by decide +kernel
theorem dX6_best_133 : decode cX6_best 133 = .ok (.aload_n 0, 1) := by decide +kernel
theorem dX6_best_134 : decode cX6_best 134 = .ok (.getfield 150, 3) := by decide +kernel
theorem dX6_best_137 : decode cX6_best 137 = .ok (.lmul, 1) := by decide +kernel
theorem dX6_best_138 : decode cX6_best 138 = .ok (.lsub, 1) := by decide +kernel
theorem dX6_best_139 : decode cX6_best 139 = .ok (.lstore 11, 2) := by decide +kernel
theorem dX6_best_141 : decode cX6_best 141 = .ok (.lload 11, 2) := by decide +kernel
theorem dX6_best_143 : decode cX6_best 143 = .ok (.lconst 0, 1) := by decide +kernel
theorem dX6_best_144 : decode cX6_best 144 = .ok (.lcmp, 1) := by decide +kernel
theorem dX6_best_145 : decode cX6_best 145 = .ok (.ifCond .gt 23, 3) := by decide +kernel
theorem dX6_best_148 : decode cX6_best 148 = .ok (.lload 11, 2) := by decide +kernel
theorem dX6_best_150 : decode cX6_best 150 = .ok (.lconst 0, 1) := by decide +kernel
theorem dX6_best_151 : decode cX6_best 151 = .ok (.lcmp, 1) := by decide +kernel
theorem dX6_best_152 : decode cX6_best 152 = .ok (.ifCond .ne 32, 3) := by decide +kernel
theorem dX6_best_155 : decode cX6_best 155 = .ok (.iload 10, 2) := by decide +kernel
theorem dX6_best_157 : decode cX6_best 157 = .ok (.invokestatic 192, 3) := by decide +kernel
theorem dX6_best_160 : decode cX6_best 160 = .ok (.iload 4, 2) := by decide +kernel
theorem dX6_best_162 : decode cX6_best 162 = .ok (.invokestatic 192, 3) := by decide +kernel
theorem dX6_best_165 : decode cX6_best 165 = .ok (.if_icmp .ge 19, 3) := by decide +kernel
theorem dX6_best_168 : decode cX6_best 168 = .ok (.iload 10, 2) := by decide +kernel
theorem dX6_best_170 : decode cX6_best 170 = .ok (.istore 4, 2) := by decide +kernel
theorem dX6_best_172 : decode cX6_best 172 = .ok (.aload_n 0, 1) := by decide +kernel
theorem dX6_best_173 : decode cX6_best 173 = .ok (.getfield 146, 3) := by decide +kernel
theorem dX6_best_176 : decode cX6_best 176 = .ok (.lstore 5, 2) := by decide +kernel
theorem dX6_best_178 : decode cX6_best 178 = .ok (.aload_n 0, 1) := by decide +kernel
theorem dX6_best_179 : decode cX6_best 179 = .ok (.getfield 150, 3) := by decide +kernel
theorem dX6_best_182 : decode cX6_best 182 = .ok (.lstore 7, 2) := by decide +kernel
theorem dX6_best_184 : decode cX6_best 184 = .ok (.iinc 10 1, 3) := by decide +kernel
theorem dX6_best_187 : decode cX6_best 187 = .ok (.goto (-137), 3) := by decide +kernel
theorem dX6_best_190 : decode cX6_best 190 = .ok (.iload_n 3, 1) := by decide +kernel
theorem dX6_best_191 : decode cX6_best 191 = .ok (.ifCond .ne 8, 3) := by decide +kernel
theorem dX6_best_194 : decode cX6_best 194 = .ok (.iload 4, 2) := by decide +kernel
theorem dX6_best_196 : decode cX6_best 196 = .ok (.goto 16, 3) := by decide +kernel
theorem dX6_best_199 : decode cX6_best 199 = .ok (.iload_n 3, 1) := by decide +kernel
theorem dX6_best_200 : decode cX6_best 200 = .ok (.iconst 1, 1) := by decide +kernel
theorem dX6_best_201 : decode cX6_best 201 = .ok (.if_icmp .ne 8, 3) := by decide +kernel
theorem dX6_best_204 : decode cX6_best 204 = .ok (.lload 5, 2) := by decide +kernel
theorem dX6_best_206 : decode cX6_best 206 = .ok (.goto 5, 3) := by decide +kernel
theorem dX6_best_209 : decode cX6_best 209 = .ok (.lload 7, 2) := by decide +kernel
theorem dX6_best_211 : decode cX6_best 211 = .ok (.l2i, 1) := by decide +kernel
theorem dX6_best_212 : decode cX6_best 212 = .ok (.ireturn, 1) := by decide +kernel
set_option maxRecDepth 20000 in
theorem ggX6_found_X6_isPort : GoodIn wsX6_found wsX6_isPort := goodIn_r _ [9, 1, 10, 11, 8, 12, 13, 14, 15, 77, 78, 79, 80, 81, 82, 83, 84, 85, 86, 87, 88, 89, 90, 91, 92, 93, 94, 95] (by decide +kernel) (by decide +kernel)
set_option maxRecDepth 20000 in
theorem gX6_found_X6_isPort : GoodIn wsX6_found (wsV RX6 114 RX6 yX6_isPort wsX6_isPort) := goodIn_app (goodIn_of _ (by decide +kernel)) ggX6_found_X6_isPort
set_option maxRecDepth 20000 in
theorem ggX6_found_X6_in : GoodIn wsX6_found wsX6_in := goodIn_r _ [15] (by decide +kernel) (by decide +kernel)
set_option maxRecDepth 20000 in
theorem gX6_found_X6_in : GoodIn wsX6_found (va_wsS RX6 48 yX6_in wsX6_in) := goodIn_app (goodIn_of _ (by decide +kernel)) ggX6_found_X6_in
set_option maxRecDepth 20000 in
theorem ggX6_found_X6_cells : GoodIn wsX6_found wsX6_cells := goodIn_r _ [18] (by decide +kernel) (by decide +kernel)
set_option maxRecDepth 20000 in
theorem gX6_found_X6_cells : GoodIn wsX6_found (va_wsS RX6 52 yX6_cells wsX6_cells) := goodIn_app (goodIn_of _ (by decide +kernel)) ggX6_found_X6_cells
set_option maxRecDepth 20000 in
theorem ggX6_found_X6_copies : GoodIn wsX6_found wsX6_copies := goodIn_r _ [21] (by decide +kernel) (by decide +kernel)
set_option maxRecDepth 20000 in
theorem gX6_found_X6_copies : GoodIn wsX6_found (va_wsS RX6 88 yX6_copies wsX6_copies) := goodIn_app (goodIn_of _ (by decide +kernel)) ggX6_found_X6_copies
set_option maxRecDepth 20000 in
theorem ggX6_found_X6_shares : GoodIn wsX6_found wsX6_shares := goodIn_r _ [25, 3, 4, 26, 27, 28, 8, 29, 30, 31, 32, 33, 34, 35, 36, 37, 38, 13, 14, 15, 39, 40, 41, 42, 43, 44, 45, 46, 47, 48, 49, 50, 51, 52, 53, 54, 55, 56, 57, 58, 59, 60, 61, 62, 63, 64, 65, 66, 67, 68, 69, 70, 71, 72, 73, 74, 75, 76, 77, 78, 79, 80, 81, 82, 83, 84, 85, 86, 87, 88, 89, 90, 91, 92, 93, 94, 95] (by decide +kernel) (by decide +kernel)
set_option maxRecDepth 20000 in
theorem gX6_found_X6_shares : GoodIn wsX6_found (wsV RX6 170 RX6 yX6_shares wsX6_shares) := goodIn_app (goodIn_of _ (by decide +kernel)) ggX6_found_X6_shares
theorem dX6_found_0 : decode cX6_found 0 = .ok (.aload_n 0, 1) := by decide +kernel
theorem dX6_found_1 : decode cX6_found 1 = .ok (.iload_n 1, 1) := by decide +kernel
theorem dX6_found_2 : decode cX6_found 2 = .ok (.invokevirtual 114, 3) := by decide +kernel
theorem dX6_found_5 : decode cX6_found 5 = .ok (.ifCond .eq 44, 3) := by decide +kernel
theorem dX6_found_8 : decode cX6_found 8 = .ok (.aload_n 0, 1) := by decide +kernel
theorem dX6_found_9 : decode cX6_found 9 = .ok (.iload_n 2, 1) := by decide +kernel
theorem dX6_found_10 : decode cX6_found 10 = .ok (.invokevirtual 114, 3) := by decide +kernel
theorem dX6_found_13 : decode cX6_found 13 = .ok (.ifCond .eq 36, 3) := by decide +kernel
theorem dX6_found_16 : decode cX6_found 16 = .ok (.iload_n 3, 1) := by decide +kernel
theorem dX6_found_17 : decode cX6_found 17 = .ok (.iconst 0, 1) := by decide +kernel
theorem dX6_found_18 : decode cX6_found 18 = .ok (.sipush 1000, 3) := by decide +kernel
theorem dX6_found_21 : decode cX6_found 21 = .ok (.invokestatic 48, 3) := by decide +kernel
theorem dX6_found_24 : decode cX6_found 24 = .ok (.ifCond .eq 25, 3) := by decide +kernel
theorem dX6_found_27 : decode cX6_found 27 = .ok (.iload 4, 2) := by decide +kernel
theorem dX6_found_29 : decode cX6_found 29 = .ok (.iconst 1, 1) := by decide +kernel
theorem dX6_found_30 : decode cX6_found 30 = .ok (.sipush 1000, 3) := by decide +kernel
theorem dX6_found_33 : decode cX6_found 33 = .ok (.invokestatic 48, 3) := by decide +kernel
theorem dX6_found_36 : decode cX6_found 36 = .ok (.ifCond .eq 13, 3) := by decide +kernel
theorem dX6_found_39 : decode cX6_found 39 = .ok (.iload 5, 2) := by decide +kernel
theorem dX6_found_41 : decode cX6_found 41 = .ok (.iconst 0, 1) := by decide +kernel
theorem dX6_found_42 : decode cX6_found 42 = .ok (.iconst 1, 1) := by decide +kernel
theorem dX6_found_43 : decode cX6_found 43 = .ok (.invokestatic 48, 3) := by decide +kernel
theorem dX6_found_46 : decode cX6_found 46 = .ok (.ifCond .ne 5, 3) := by decide +kernel
theorem dX6_found_49 : decode cX6_found 49 = .ok (.iconst (-1), 1) := by decide +kernel
theorem dX6_found_50 : decode cX6_found 50 = .ok (.ireturn, 1) := by decide +kernel
theorem dX6_found_51 : decode cX6_found 51 = .ok (.iconst 0, 1) := by decide +kernel
theorem dX6_found_52 : decode cX6_found 52 = .ok (.istore 6, 2) := by decide +kernel
theorem dX6_found_54 : decode cX6_found 54 = .ok (.bipush (-4), 2) := by decide +kernel
theorem dX6_found_56 : decode cX6_found 56 = .ok (.istore 7, 2) := by decide +kernel
theorem dX6_found_58 : decode cX6_found 58 = .ok (.iconst 0, 1) := by decide +kernel
theorem dX6_found_59 : decode cX6_found 59 = .ok (.istore 8, 2) := by decide +kernel
theorem dX6_found_61 : decode cX6_found 61 = .ok (.iload 8, 2) := by decide +kernel
theorem dX6_found_63 : decode cX6_found 63 = .ok (.aload_n 0, 1) := by decide +kernel
theorem dX6_found_64 : decode cX6_found 64 = .ok (.getfield 7, 3) := by decide +kernel
theorem dX6_found_67 : decode cX6_found 67 = .ok (.invokestatic 52, 3) := by decide +kernel
theorem dX6_found_70 : decode cX6_found 70 = .ok (.if_icmp .ge 115, 3) := by decide +kernel
theorem dX6_found_73 : decode cX6_found 73 = .ok (.iconst 1, 1) := by decide +kernel
theorem dX6_found_74 : decode cX6_found 74 = .ok (.istore 9, 2) := by decide +kernel
theorem dX6_found_76 : decode cX6_found 76 = .ok (.iload 9, 2) := by decide +kernel
theorem dX6_found_78 : decode cX6_found 78 = .ok (.iconst 3, 1) := by decide +kernel
theorem dX6_found_79 : decode cX6_found 79 = .ok (.if_icmp .ge 100, 3) := by decide +kernel
theorem dX6_found_82 : decode cX6_found 82 = .ok (.aload_n 0, 1) := by decide +kernel
theorem dX6_found_83 : decode cX6_found 83 = .ok (.getfield 7, 3) := by decide +kernel
theorem dX6_found_86 : decode cX6_found 86 = .ok (.iconst 2, 1) := by decide +kernel
theorem dX6_found_87 : decode cX6_found 87 = .ok (.iload 8, 2) := by decide +kernel
theorem dX6_found_89 : decode cX6_found 89 = .ok (.iadd, 1) := by decide +kernel
theorem dX6_found_90 : decode cX6_found 90 = .ok (.iaload, 1) := by decide +kernel
theorem dX6_found_91 : decode cX6_found 91 = .ok (.ifCond .ne 88, 3) := by decide +kernel
theorem dX6_found_94 : decode cX6_found 94 = .ok (.aload_n 0, 1) := by decide +kernel
theorem dX6_found_95 : decode cX6_found 95 = .ok (.getfield 7, 3) := by decide +kernel
end
section
theorem dX6_found_98 : decode cX6_found 98 = .ok (.iconst 0, 1) := by decide +kernel
theorem dX6_found_99 : decode cX6_found 99 = .ok (.aload_n 0, 1) := by decide +kernel
theorem dX6_found_100 : decode cX6_found 100 = .ok (.getfield 16, 3) := by decide +kernel
theorem dX6_found_103 : decode cX6_found 103 = .ok (.iconst 0, 1) := by decide +kernel
theorem dX6_found_104 : decode cX6_found 104 = .ok (.invokestatic 88, 3) := by decide +kernel
theorem dX6_found_107 : decode cX6_found 107 = .ok (.aload_n 0, 1) := by decide +kernel
theorem dX6_found_108 : decode cX6_found 108 = .ok (.getfield 16, 3) := by decide +kernel
theorem dX6_found_111 : decode cX6_found 111 = .ok (.iconst 2, 1) := by decide +kernel
theorem dX6_found_112 : decode cX6_found 112 = .ok (.iload 8, 2) := by decide +kernel
theorem dX6_found_114 : decode cX6_found 114 = .ok (.iadd, 1) := by decide +kernel
theorem dX6_found_115 : decode cX6_found 115 = .ok (.iload 9, 2) := by decide +kernel
theorem dX6_found_117 : decode cX6_found 117 = .ok (.iastore, 1) := by decide +kernel
theorem dX6_found_118 : decode cX6_found 118 = .ok (.aload_n 0, 1) := by decide +kernel
theorem dX6_found_119 : decode cX6_found 119 = .ok (.aload_n 0, 1) := by decide +kernel
theorem dX6_found_120 : decode cX6_found 120 = .ok (.getfield 16, 3) := by decide +kernel
theorem dX6_found_123 : decode cX6_found 123 = .ok (.iload_n 1, 1) := by decide +kernel
theorem dX6_found_124 : decode cX6_found 124 = .ok (.iload_n 2, 1) := by decide +kernel
theorem dX6_found_125 : decode cX6_found 125 = .ok (.invokevirtual 170, 3) := by decide +kernel
theorem dX6_found_128 : decode cX6_found 128 = .ok (.aload_n 0, 1) := by decide +kernel
theorem dX6_found_129 : decode cX6_found 129 = .ok (.getfield 146, 3) := by decide +kernel
theorem dX6_found_132 : decode cX6_found 132 = .ok (.iload 4, 2) := by decide +kernel
theorem dX6_found_134 : decode cX6_found 134 = .ok (.i2l, 1) := by decide +kernel
theorem dX6_found_135 : decode cX6_found 135 = .ok (.lmul, 1) := by decide +kernel
theorem dX6_found_136 : decode cX6_found 136 = .ok (.aload_n 0, 1) := by decide +kernel
theorem dX6_found_137 : decode cX6_found 137 = .ok (.getfield 150, 3) := by decide +kernel
theorem dX6_found_140 : decode cX6_found 140 = .ok (.iload_n 3, 1) := by decide +kernel
theorem dX6_found_141 : decode cX6_found 141 = .ok (.i2l, 1) := by decide +kernel
theorem dX6_found_142 : decode cX6_found 142 = .ok (.lmul, 1) := by decide +kernel
theorem dX6_found_143 : decode cX6_found 143 = .ok (.lcmp, 1) := by decide +kernel
theorem dX6_found_144 : decode cX6_found 144 = .ok (.ifCond .ne 29, 3) := by decide +kernel
theorem dX6_found_147 : decode cX6_found 147 = .ok (.iinc 6 1, 3) := by decide +kernel
theorem dX6_found_150 : decode cX6_found 150 = .ok (.iload 7, 2) := by decide +kernel
theorem dX6_found_152 : decode cX6_found 152 = .ok (.bipush (-4), 2) := by decide +kernel
theorem dX6_found_154 : decode cX6_found 154 = .ok (.if_icmp .ne 15, 3) := by decide +kernel
theorem dX6_found_157 : decode cX6_found 157 = .ok (.iconst 2, 1) := by decide +kernel
theorem dX6_found_158 : decode cX6_found 158 = .ok (.iload 8, 2) := by decide +kernel
theorem dX6_found_160 : decode cX6_found 160 = .ok (.imul, 1) := by decide +kernel
theorem dX6_found_161 : decode cX6_found 161 = .ok (.iload 9, 2) := by decide +kernel
theorem dX6_found_163 : decode cX6_found 163 = .ok (.iadd, 1) := by decide +kernel
theorem dX6_found_164 : decode cX6_found 164 = .ok (.iconst 1, 1) := by decide +kernel
theorem dX6_found_165 : decode cX6_found 165 = .ok (.isub, 1) := by decide +kernel
theorem dX6_found_166 : decode cX6_found 166 = .ok (.goto 5, 3) := by decide +kernel
theorem dX6_found_169 : decode cX6_found 169 = .ok (.iload 7, 2) := by decide +kernel
theorem dX6_found_171 : decode cX6_found 171 = .ok (.istore 7, 2) := by decide +kernel
theorem dX6_found_173 : decode cX6_found 173 = .ok (.iinc 9 1, 3) := by decide +kernel
theorem dX6_found_176 : decode cX6_found 176 = .ok (.goto (-100), 3) := by decide +kernel
theorem dX6_found_179 : decode cX6_found 179 = .ok (.iinc 8 1, 3) := by decide +kernel
theorem dX6_found_182 : decode cX6_found 182 = .ok (.goto (-121), 3) := by decide +kernel
theorem dX6_found_185 : decode cX6_found 185 = .ok (.iload 5, 2) := by decide +kernel
theorem dX6_found_187 : decode cX6_found 187 = .ok (.ifCond .ne 8, 3) := by decide +kernel
theorem dX6_found_190 : decode cX6_found 190 = .ok (.iload 6, 2) := by decide +kernel
theorem dX6_found_192 : decode cX6_found 192 = .ok (.goto 5, 3) := by decide +kernel
theorem dX6_found_195 : decode cX6_found 195 = .ok (.iload 7, 2) := by decide +kernel
theorem dX6_found_197 : decode cX6_found 197 = .ok (.ireturn, 1) := by decide +kernel
set_option maxRecDepth 20000 in
theorem ggX6_count_X6_cells : GoodIn wsX6_count wsX6_cells := goodIn_r _ [7] (by decide +kernel) (by decide +kernel)
set_option maxRecDepth 20000 in
theorem gX6_count_X6_cells : GoodIn wsX6_count (va_wsS RX6 52 yX6_cells wsX6_cells) := goodIn_app (goodIn_of _ (by decide +kernel)) ggX6_count_X6_cells
set_option maxRecDepth 20000 in
theorem ggX6_count_X6_in : GoodIn wsX6_count wsX6_in := goodIn_r _ [10] (by decide +kernel) (by decide +kernel)
set_option maxRecDepth 20000 in
theorem gX6_count_X6_in : GoodIn wsX6_count (va_wsS RX6 48 yX6_in wsX6_in) := goodIn_app (goodIn_of _ (by decide +kernel)) ggX6_count_X6_in
set_option maxRecDepth 20000 in
theorem ggX6_count_X6_halves : GoodIn wsX6_count wsX6_halves := goodIn_r _ [13, 4, 5, 6, 7, 14, 15, 16, 8, 9, 10] (by decide +kernel) (by decide +kernel)
set_option maxRecDepth 20000 in
theorem gX6_count_X6_halves : GoodIn wsX6_count (va_wsS RX6 74 yX6_halves wsX6_halves) := goodIn_app (goodIn_of _ (by decide +kernel)) ggX6_count_X6_halves
set_option maxRecDepth 20000 in
theorem ggX6_count_X6_doors : GoodIn wsX6_count wsX6_doors := goodIn_r _ [19, 4, 5, 6, 7, 20, 21, 22, 8, 9, 10] (by decide +kernel) (by decide +kernel)
set_option maxRecDepth 20000 in
theorem gX6_count_X6_doors : GoodIn wsX6_count (va_wsS RX6 77 yX6_doors wsX6_doors) := goodIn_app (goodIn_of _ (by decide +kernel)) ggX6_count_X6_doors
set_option maxRecDepth 20000 in
theorem ggX6_count_X6_openOf : GoodIn wsX6_count wsX6_openOf := goodIn_r _ [25, 4, 5, 6, 7] (by decide +kernel) (by decide +kernel)
set_option maxRecDepth 20000 in
theorem gX6_count_X6_openOf : GoodIn wsX6_count (va_wsS RX6 108 yX6_openOf wsX6_openOf) := goodIn_app (goodIn_of _ (by decide +kernel)) ggX6_count_X6_openOf
set_option maxRecDepth 20000 in
theorem ggX6_count_X6_ports : GoodIn wsX6_count wsX6_ports := goodIn_r _ [28] (by decide +kernel) (by decide +kernel)
set_option maxRecDepth 20000 in
theorem gX6_count_X6_ports : GoodIn wsX6_count (va_wsS RX6 111 yX6_ports wsX6_ports) := goodIn_app (goodIn_of _ (by decide +kernel)) ggX6_count_X6_ports
theorem dX6_count_0 : decode cX6_count 0 = .ok (.iconst 0, 1) := by decide +kernel
theorem dX6_count_1 : decode cX6_count 1 = .ok (.istore_n 2, 1) := by decide +kernel
theorem dX6_count_2 : decode cX6_count 2 = .ok (.iconst 0, 1) := by decide +kernel
theorem dX6_count_3 : decode cX6_count 3 = .ok (.istore_n 3, 1) := by decide +kernel
theorem dX6_count_4 : decode cX6_count 4 = .ok (.iconst 0, 1) := by decide +kernel
theorem dX6_count_5 : decode cX6_count 5 = .ok (.istore 4, 2) := by decide +kernel
theorem dX6_count_7 : decode cX6_count 7 = .ok (.iload 4, 2) := by decide +kernel
theorem dX6_count_9 : decode cX6_count 9 = .ok (.aload_n 0, 1) := by decide +kernel
theorem dX6_count_10 : decode cX6_count 10 = .ok (.getfield 7, 3) := by decide +kernel
theorem dX6_count_13 : decode cX6_count 13 = .ok (.invokestatic 52, 3) := by decide +kernel
theorem dX6_count_16 : decode cX6_count 16 = .ok (.if_icmp .ge 55, 3) := by decide +kernel
theorem dX6_count_19 : decode cX6_count 19 = .ok (.iload_n 2, 1) := by decide +kernel
theorem dX6_count_20 : decode cX6_count 20 = .ok (.aload_n 0, 1) := by decide +kernel
theorem dX6_count_21 : decode cX6_count 21 = .ok (.getfield 7, 3) := by decide +kernel
theorem dX6_count_24 : decode cX6_count 24 = .ok (.iconst 2, 1) := by decide +kernel
theorem dX6_count_25 : decode cX6_count 25 = .ok (.iload 4, 2) := by decide +kernel
theorem dX6_count_27 : decode cX6_count 27 = .ok (.iadd, 1) := by decide +kernel
theorem dX6_count_28 : decode cX6_count 28 = .ok (.iaload, 1) := by decide +kernel
theorem dX6_count_29 : decode cX6_count 29 = .ok (.iconst 5, 1) := by decide +kernel
theorem dX6_count_30 : decode cX6_count 30 = .ok (.if_icmp .ne 7, 3) := by decide +kernel
theorem dX6_count_33 : decode cX6_count 33 = .ok (.iconst 1, 1) := by decide +kernel
theorem dX6_count_34 : decode cX6_count 34 = .ok (.goto 4, 3) := by decide +kernel
theorem dX6_count_37 : decode cX6_count 37 = .ok (.iconst 0, 1) := by decide +kernel
theorem dX6_count_38 : decode cX6_count 38 = .ok (.iadd, 1) := by decide +kernel
theorem dX6_count_39 : decode cX6_count 39 = .ok (.istore_n 2, 1) := by decide +kernel
theorem dX6_count_40 : decode cX6_count 40 = .ok (.iload_n 3, 1) := by decide +kernel
theorem dX6_count_41 : decode cX6_count 41 = .ok (.aload_n 0, 1) := by decide +kernel
theorem dX6_count_42 : decode cX6_count 42 = .ok (.getfield 7, 3) := by decide +kernel
theorem dX6_count_45 : decode cX6_count 45 = .ok (.iconst 2, 1) := by decide +kernel
theorem dX6_count_46 : decode cX6_count 46 = .ok (.iload 4, 2) := by decide +kernel
theorem dX6_count_48 : decode cX6_count 48 = .ok (.iadd, 1) := by decide +kernel
theorem dX6_count_49 : decode cX6_count 49 = .ok (.iaload, 1) := by decide +kernel
theorem dX6_count_50 : decode cX6_count 50 = .ok (.iconst 1, 1) := by decide +kernel
theorem dX6_count_51 : decode cX6_count 51 = .ok (.iconst 2, 1) := by decide +kernel
theorem dX6_count_52 : decode cX6_count 52 = .ok (.invokestatic 48, 3) := by decide +kernel
theorem dX6_count_55 : decode cX6_count 55 = .ok (.ifCond .eq 7, 3) := by decide +kernel
theorem dX6_count_58 : decode cX6_count 58 = .ok (.iconst 1, 1) := by decide +kernel
theorem dX6_count_59 : decode cX6_count 59 = .ok (.goto 4, 3) := by decide +kernel
theorem dX6_count_62 : decode cX6_count 62 = .ok (.iconst 0, 1) := by decide +kernel
theorem dX6_count_63 : decode cX6_count 63 = .ok (.iadd, 1) := by decide +kernel
theorem dX6_count_64 : decode cX6_count 64 = .ok (.istore_n 3, 1) := by decide +kernel
theorem dX6_count_65 : decode cX6_count 65 = .ok (.iinc 4 1, 3) := by decide +kernel
theorem dX6_count_68 : decode cX6_count 68 = .ok (.goto (-61), 3) := by decide +kernel
theorem dX6_count_71 : decode cX6_count 71 = .ok (.iload_n 1, 1) := by decide +kernel
theorem dX6_count_72 : decode cX6_count 72 = .ok (.tableswitch 109 0 9 #[56, 56, 63, 71, 79, 87, 89, 91, 99, 104], 56) := by decide +kernel
theorem dX6_count_128 : decode cX6_count 128 = .ok (.aload_n 0, 1) := by decide +kernel
theorem dX6_count_129 : decode cX6_count 129 = .ok (.getfield 7, 3) := by decide +kernel
theorem dX6_count_132 : decode cX6_count 132 = .ok (.iload_n 1, 1) := by decide +kernel
theorem dX6_count_133 : decode cX6_count 133 = .ok (.iaload, 1) := by decide +kernel
theorem dX6_count_134 : decode cX6_count 134 = .ok (.ireturn, 1) := by decide +kernel
theorem dX6_count_135 : decode cX6_count 135 = .ok (.aload_n 0, 1) := by decide +kernel
theorem dX6_count_136 : decode cX6_count 136 = .ok (.getfield 7, 3) := by decide +kernel
theorem dX6_count_139 : decode cX6_count 139 = .ok (.invokestatic 74, 3) := by decide +kernel
theorem dX6_count_142 : decode cX6_count 142 = .ok (.ireturn, 1) := by decide +kernel
theorem dX6_count_143 : decode cX6_count 143 = .ok (.aload_n 0, 1) := by decide +kernel
theorem dX6_count_144 : decode cX6_count 144 = .ok (.getfield 7, 3) := by decide +kernel
theorem dX6_count_147 : decode cX6_count 147 = .ok (.invokestatic 77, 3) := by decide +kernel
theorem dX6_count_150 : decode cX6_count 150 = .ok (.ireturn, 1) := by decide +kernel
theorem dX6_count_151 : decode cX6_count 151 = .ok (.aload_n 0, 1) := by decide +kernel
theorem dX6_count_152 : decode cX6_count 152 = .ok (.getfield 7, 3) := by decide +kernel
theorem dX6_count_155 : decode cX6_count 155 = .ok (.invokestatic 108, 3) := by decide +kernel
theorem dX6_count_158 : decode cX6_count 158 = .ok (.ireturn, 1) := by decide +kernel
theorem dX6_count_159 : decode cX6_count 159 = .ok (.iload_n 2, 1) := by decide +kernel
theorem dX6_count_160 : decode cX6_count 160 = .ok (.ireturn, 1) := by decide +kernel
theorem dX6_count_161 : decode cX6_count 161 = .ok (.iload_n 3, 1) := by decide +kernel
theorem dX6_count_162 : decode cX6_count 162 = .ok (.ireturn, 1) := by decide +kernel
theorem dX6_count_163 : decode cX6_count 163 = .ok (.aload_n 0, 1) := by decide +kernel
theorem dX6_count_164 : decode cX6_count 164 = .ok (.getfield 7, 3) := by decide +kernel
theorem dX6_count_167 : decode cX6_count 167 = .ok (.invokestatic 111, 3) := by decide +kernel
theorem dX6_count_170 : decode cX6_count 170 = .ok (.ireturn, 1) := by decide +kernel
theorem dX6_count_171 : decode cX6_count 171 = .ok (.aload_n 0, 1) := by decide +kernel
theorem dX6_count_172 : decode cX6_count 172 = .ok (.getfield 92, 3) := by decide +kernel
theorem dX6_count_175 : decode cX6_count 175 = .ok (.ireturn, 1) := by decide +kernel
theorem dX6_count_176 : decode cX6_count 176 = .ok (.aload_n 0, 1) := by decide +kernel
theorem dX6_count_177 : decode cX6_count 177 = .ok (.getfield 67, 3) := by decide +kernel
theorem dX6_count_180 : decode cX6_count 180 = .ok (.ireturn, 1) := by decide +kernel
theorem dX6_count_181 : decode cX6_count 181 = .ok (.iconst (-1), 1) := by decide +kernel
theorem dX6_count_182 : decode cX6_count 182 = .ok (.ireturn, 1) := by decide +kernel
theorem dJ11_isValidCodePoint_9a6ad_0 : decode cJ11_isValidCodePoint_9a6ad 0 = .ok (.iload_n 0, 1) := by decide +kernel
theorem dJ11_isValidCodePoint_9a6ad_1 : decode cJ11_isValidCodePoint_9a6ad 1 = .ok (.bipush 16, 2) := by decide +kernel
theorem dJ11_isValidCodePoint_9a6ad_3 : decode cJ11_isValidCodePoint_9a6ad 3 = .ok (.iushr, 1) := by decide +kernel
theorem dJ11_isValidCodePoint_9a6ad_4 : decode cJ11_isValidCodePoint_9a6ad 4 = .ok (.istore_n 1, 1) := by decide +kernel
theorem dJ11_isValidCodePoint_9a6ad_5 : decode cJ11_isValidCodePoint_9a6ad 5 = .ok (.iload_n 1, 1) := by decide +kernel
theorem dJ11_isValidCodePoint_9a6ad_6 : decode cJ11_isValidCodePoint_9a6ad 6 = .ok (.bipush 17, 2) := by decide +kernel
theorem dJ11_isValidCodePoint_9a6ad_8 : decode cJ11_isValidCodePoint_9a6ad 8 = .ok (.if_icmp .ge 7, 3) := by decide +kernel
theorem dJ11_isValidCodePoint_9a6ad_11 : decode cJ11_isValidCodePoint_9a6ad 11 = .ok (.iconst 1, 1) := by decide +kernel
theorem dJ11_isValidCodePoint_9a6ad_12 : decode cJ11_isValidCodePoint_9a6ad 12 = .ok (.goto 4, 3) := by decide +kernel
theorem dJ11_isValidCodePoint_9a6ad_15 : decode cJ11_isValidCodePoint_9a6ad 15 = .ok (.iconst 0, 1) := by decide +kernel
theorem dJ11_isValidCodePoint_9a6ad_16 : decode cJ11_isValidCodePoint_9a6ad 16 = .ok (.ireturn, 1) := by decide +kernel
theorem dJ11_highSurrogate_5068e_0 : decode cJ11_highSurrogate_5068e 0 = .ok (.iload_n 0, 1) := by decide +kernel
theorem dJ11_highSurrogate_5068e_1 : decode cJ11_highSurrogate_5068e 1 = .ok (.bipush 10, 2) := by decide +kernel
theorem dJ11_highSurrogate_5068e_3 : decode cJ11_highSurrogate_5068e 3 = .ok (.iushr, 1) := by decide +kernel
theorem dJ11_highSurrogate_5068e_4 : decode cJ11_highSurrogate_5068e 4 = .ok (.ldc 110, 2) := by decide +kernel
theorem dJ11_highSurrogate_5068e_6 : decode cJ11_highSurrogate_5068e 6 = .ok (.iadd, 1) := by decide +kernel
theorem dJ11_highSurrogate_5068e_7 : decode cJ11_highSurrogate_5068e 7 = .ok (.i2c, 1) := by decide +kernel
theorem dJ11_highSurrogate_5068e_8 : decode cJ11_highSurrogate_5068e 8 = .ok (.ireturn, 1) := by decide +kernel
theorem dJ11_lowSurrogate_5068e_0 : decode cJ11_lowSurrogate_5068e 0 = .ok (.iload_n 0, 1) := by decide +kernel
theorem dJ11_lowSurrogate_5068e_1 : decode cJ11_lowSurrogate_5068e 1 = .ok (.sipush 1023, 3) := by decide +kernel
theorem dJ11_lowSurrogate_5068e_4 : decode cJ11_lowSurrogate_5068e 4 = .ok (.iand, 1) := by decide +kernel
theorem dJ11_lowSurrogate_5068e_5 : decode cJ11_lowSurrogate_5068e 5 = .ok (.ldc 76, 2) := by decide +kernel
theorem dJ11_lowSurrogate_5068e_7 : decode cJ11_lowSurrogate_5068e 7 = .ok (.iadd, 1) := by decide +kernel
theorem dJ11_lowSurrogate_5068e_8 : decode cJ11_lowSurrogate_5068e 8 = .ok (.i2c, 1) := by decide +kernel
theorem dJ11_lowSurrogate_5068e_9 : decode cJ11_lowSurrogate_5068e 9 = .ok (.ireturn, 1) := by decide +kernel
theorem dJxf58ca_isNaN_12338_0 : decode cJxf58ca_isNaN_12338 0 = .ok (.fload_n 0, 1) := by decide +kernel
theorem dJxf58ca_isNaN_12338_1 : decode cJxf58ca_isNaN_12338 1 = .ok (.fload_n 0, 1) := by decide +kernel
theorem dJxf58ca_isNaN_12338_2 : decode cJxf58ca_isNaN_12338 2 = .ok (.fcmp .l, 1) := by decide +kernel
theorem dJxf58ca_isNaN_12338_3 : decode cJxf58ca_isNaN_12338 3 = .ok (.ifCond .eq 7, 3) := by decide +kernel
theorem dJxf58ca_isNaN_12338_6 : decode cJxf58ca_isNaN_12338 6 = .ok (.iconst 1, 1) := by decide +kernel
theorem dJxf58ca_isNaN_12338_7 : decode cJxf58ca_isNaN_12338 7 = .ok (.goto 4, 3) := by decide +kernel
theorem dJxf58ca_isNaN_12338_10 : decode cJxf58ca_isNaN_12338 10 = .ok (.iconst 0, 1) := by decide +kernel
theorem dJxf58ca_isNaN_12338_11 : decode cJxf58ca_isNaN_12338 11 = .ok (.ireturn, 1) := by decide +kernel
set_option maxRecDepth 20000 in
theorem ggJxf58ca_floatToIntBits_5c35a_Jxf58ca_isNaN_12338 : GoodIn wsJxf58ca_floatToIntBits_5c35a wsJxf58ca_isNaN_12338 := goodIn_r _ [9] (by decide +kernel) (by decide +kernel)
set_option maxRecDepth 20000 in
theorem gJxf58ca_floatToIntBits_5c35a_Jxf58ca_isNaN_12338 : GoodIn wsJxf58ca_floatToIntBits_5c35a (va_wsS RJxf58ca 59 yJxf58ca_isNaN_12338 wsJxf58ca_isNaN_12338) := goodIn_app (goodIn_of _ (by decide +kernel)) ggJxf58ca_floatToIntBits_5c35a_Jxf58ca_isNaN_12338
theorem dJxf58ca_floatToIntBits_5c35a_0 : decode cJxf58ca_floatToIntBits_5c35a 0 = .ok (.fload_n 0, 1) := by decide +kernel
theorem dJxf58ca_floatToIntBits_5c35a_1 : decode cJxf58ca_floatToIntBits_5c35a 1 = .ok (.invokestatic 59, 3) := by decide +kernel
theorem dJxf58ca_floatToIntBits_5c35a_4 : decode cJxf58ca_floatToIntBits_5c35a 4 = .ok (.ifCond .ne 8, 3) := by decide +kernel
theorem dJxf58ca_floatToIntBits_5c35a_7 : decode cJxf58ca_floatToIntBits_5c35a 7 = .ok (.fload_n 0, 1) := by decide +kernel
theorem dJxf58ca_floatToIntBits_5c35a_8 : decode cJxf58ca_floatToIntBits_5c35a 8 = .ok (.invokestatic 74, 3) := by decide +kernel
theorem dJxf58ca_floatToIntBits_5c35a_11 : decode cJxf58ca_floatToIntBits_5c35a 11 = .ok (.ireturn, 1) := by decide +kernel
theorem dJxf58ca_floatToIntBits_5c35a_12 : decode cJxf58ca_floatToIntBits_5c35a 12 = .ok (.ldc 77, 2) := by decide +kernel
theorem dJxf58ca_floatToIntBits_5c35a_14 : decode cJxf58ca_floatToIntBits_5c35a 14 = .ok (.ireturn, 1) := by decide +kernel
theorem dJ6_bitCount_0f7a4_0 : decode cJ6_bitCount_0f7a4 0 = .ok (.iload_n 0, 1) := by decide +kernel
theorem dJ6_bitCount_0f7a4_1 : decode cJ6_bitCount_0f7a4 1 = .ok (.iload_n 0, 1) := by decide +kernel
theorem dJ6_bitCount_0f7a4_2 : decode cJ6_bitCount_0f7a4 2 = .ok (.iconst 1, 1) := by decide +kernel
theorem dJ6_bitCount_0f7a4_3 : decode cJ6_bitCount_0f7a4 3 = .ok (.iushr, 1) := by decide +kernel
theorem dJ6_bitCount_0f7a4_4 : decode cJ6_bitCount_0f7a4 4 = .ok (.ldc_w 265, 3) := by decide +kernel
theorem dJ6_bitCount_0f7a4_7 : decode cJ6_bitCount_0f7a4 7 = .ok (.iand, 1) := by decide +kernel
theorem dJ6_bitCount_0f7a4_8 : decode cJ6_bitCount_0f7a4 8 = .ok (.isub, 1) := by decide +kernel
theorem dJ6_bitCount_0f7a4_9 : decode cJ6_bitCount_0f7a4 9 = .ok (.istore_n 0, 1) := by decide +kernel
theorem dJ6_bitCount_0f7a4_10 : decode cJ6_bitCount_0f7a4 10 = .ok (.iload_n 0, 1) := by decide +kernel
theorem dJ6_bitCount_0f7a4_11 : decode cJ6_bitCount_0f7a4 11 = .ok (.ldc_w 266, 3) := by decide +kernel
theorem dJ6_bitCount_0f7a4_14 : decode cJ6_bitCount_0f7a4 14 = .ok (.iand, 1) := by decide +kernel
theorem dJ6_bitCount_0f7a4_15 : decode cJ6_bitCount_0f7a4 15 = .ok (.iload_n 0, 1) := by decide +kernel
theorem dJ6_bitCount_0f7a4_16 : decode cJ6_bitCount_0f7a4 16 = .ok (.iconst 2, 1) := by decide +kernel
theorem dJ6_bitCount_0f7a4_17 : decode cJ6_bitCount_0f7a4 17 = .ok (.iushr, 1) := by decide +kernel
theorem dJ6_bitCount_0f7a4_18 : decode cJ6_bitCount_0f7a4 18 = .ok (.ldc_w 266, 3) := by decide +kernel
theorem dJ6_bitCount_0f7a4_21 : decode cJ6_bitCount_0f7a4 21 = .ok (.iand, 1) := by decide +kernel
theorem dJ6_bitCount_0f7a4_22 : decode cJ6_bitCount_0f7a4 22 = .ok (.iadd, 1) := by decide +kernel
theorem dJ6_bitCount_0f7a4_23 : decode cJ6_bitCount_0f7a4 23 = .ok (.istore_n 0, 1) := by decide +kernel
theorem dJ6_bitCount_0f7a4_24 : decode cJ6_bitCount_0f7a4 24 = .ok (.iload_n 0, 1) := by decide +kernel
theorem dJ6_bitCount_0f7a4_25 : decode cJ6_bitCount_0f7a4 25 = .ok (.iload_n 0, 1) := by decide +kernel
theorem dJ6_bitCount_0f7a4_26 : decode cJ6_bitCount_0f7a4 26 = .ok (.iconst 4, 1) := by decide +kernel
theorem dJ6_bitCount_0f7a4_27 : decode cJ6_bitCount_0f7a4 27 = .ok (.iushr, 1) := by decide +kernel
theorem dJ6_bitCount_0f7a4_28 : decode cJ6_bitCount_0f7a4 28 = .ok (.iadd, 1) := by decide +kernel
theorem dJ6_bitCount_0f7a4_29 : decode cJ6_bitCount_0f7a4 29 = .ok (.ldc_w 267, 3) := by decide +kernel
theorem dJ6_bitCount_0f7a4_32 : decode cJ6_bitCount_0f7a4 32 = .ok (.iand, 1) := by decide +kernel
theorem dJ6_bitCount_0f7a4_33 : decode cJ6_bitCount_0f7a4 33 = .ok (.istore_n 0, 1) := by decide +kernel
theorem dJ6_bitCount_0f7a4_34 : decode cJ6_bitCount_0f7a4 34 = .ok (.iload_n 0, 1) := by decide +kernel
theorem dJ6_bitCount_0f7a4_35 : decode cJ6_bitCount_0f7a4 35 = .ok (.iload_n 0, 1) := by decide +kernel
theorem dJ6_bitCount_0f7a4_36 : decode cJ6_bitCount_0f7a4 36 = .ok (.bipush 8, 2) := by decide +kernel
theorem dJ6_bitCount_0f7a4_38 : decode cJ6_bitCount_0f7a4 38 = .ok (.iushr, 1) := by decide +kernel
theorem dJ6_bitCount_0f7a4_39 : decode cJ6_bitCount_0f7a4 39 = .ok (.iadd, 1) := by decide +kernel
theorem dJ6_bitCount_0f7a4_40 : decode cJ6_bitCount_0f7a4 40 = .ok (.istore_n 0, 1) := by decide +kernel
theorem dJ6_bitCount_0f7a4_41 : decode cJ6_bitCount_0f7a4 41 = .ok (.iload_n 0, 1) := by decide +kernel
theorem dJ6_bitCount_0f7a4_42 : decode cJ6_bitCount_0f7a4 42 = .ok (.iload_n 0, 1) := by decide +kernel
theorem dJ6_bitCount_0f7a4_43 : decode cJ6_bitCount_0f7a4 43 = .ok (.bipush 16, 2) := by decide +kernel
theorem dJ6_bitCount_0f7a4_45 : decode cJ6_bitCount_0f7a4 45 = .ok (.iushr, 1) := by decide +kernel
theorem dJ6_bitCount_0f7a4_46 : decode cJ6_bitCount_0f7a4 46 = .ok (.iadd, 1) := by decide +kernel
theorem dJ6_bitCount_0f7a4_47 : decode cJ6_bitCount_0f7a4 47 = .ok (.istore_n 0, 1) := by decide +kernel
theorem dJ6_bitCount_0f7a4_48 : decode cJ6_bitCount_0f7a4 48 = .ok (.iload_n 0, 1) := by decide +kernel
theorem dJ6_bitCount_0f7a4_49 : decode cJ6_bitCount_0f7a4 49 = .ok (.bipush 63, 2) := by decide +kernel
theorem dJ6_bitCount_0f7a4_51 : decode cJ6_bitCount_0f7a4 51 = .ok (.iand, 1) := by decide +kernel
theorem dJ6_bitCount_0f7a4_52 : decode cJ6_bitCount_0f7a4 52 = .ok (.ireturn, 1) := by decide +kernel
theorem dJ13_compare_74951_0 : decode cJ13_compare_74951 0 = .ok (.lload_n 0, 1) := by decide +kernel
theorem dJ13_compare_74951_1 : decode cJ13_compare_74951 1 = .ok (.lload_n 2, 1) := by decide +kernel
theorem dJ13_compare_74951_2 : decode cJ13_compare_74951 2 = .ok (.lcmp, 1) := by decide +kernel
theorem dJ13_compare_74951_3 : decode cJ13_compare_74951 3 = .ok (.ifCond .ge 7, 3) := by decide +kernel
theorem dJ13_compare_74951_6 : decode cJ13_compare_74951 6 = .ok (.iconst (-1), 1) := by decide +kernel
theorem dJ13_compare_74951_7 : decode cJ13_compare_74951 7 = .ok (.goto 14, 3) := by decide +kernel
theorem dJ13_compare_74951_10 : decode cJ13_compare_74951 10 = .ok (.lload_n 0, 1) := by decide +kernel
theorem dJ13_compare_74951_11 : decode cJ13_compare_74951 11 = .ok (.lload_n 2, 1) := by decide +kernel
theorem dJ13_compare_74951_12 : decode cJ13_compare_74951 12 = .ok (.lcmp, 1) := by decide +kernel
theorem dJ13_compare_74951_13 : decode cJ13_compare_74951 13 = .ok (.ifCond .ne 7, 3) := by decide +kernel
theorem dJ13_compare_74951_16 : decode cJ13_compare_74951 16 = .ok (.iconst 0, 1) := by decide +kernel
theorem dJ13_compare_74951_17 : decode cJ13_compare_74951 17 = .ok (.goto 4, 3) := by decide +kernel
theorem dJ13_compare_74951_20 : decode cJ13_compare_74951 20 = .ok (.iconst 1, 1) := by decide +kernel
theorem dJ13_compare_74951_21 : decode cJ13_compare_74951 21 = .ok (.ireturn, 1) := by decide +kernel
theorem dJ9_max_7cf53_0 : decode cJ9_max_7cf53 0 = .ok (.iload_n 0, 1) := by decide +kernel
theorem dJ9_max_7cf53_1 : decode cJ9_max_7cf53 1 = .ok (.iload_n 1, 1) := by decide +kernel
theorem dJ9_max_7cf53_2 : decode cJ9_max_7cf53 2 = .ok (.if_icmp .lt 7, 3) := by decide +kernel
theorem dJ9_max_7cf53_5 : decode cJ9_max_7cf53 5 = .ok (.iload_n 0, 1) := by decide +kernel
theorem dJ9_max_7cf53_6 : decode cJ9_max_7cf53 6 = .ok (.goto 4, 3) := by decide +kernel
theorem dJ9_max_7cf53_9 : decode cJ9_max_7cf53 9 = .ok (.iload_n 1, 1) := by decide +kernel
theorem dJ9_max_7cf53_10 : decode cJ9_max_7cf53 10 = .ok (.ireturn, 1) := by decide +kernel
theorem dJ9_min_7cf53_0 : decode cJ9_min_7cf53 0 = .ok (.iload_n 0, 1) := by decide +kernel
theorem dJ9_min_7cf53_1 : decode cJ9_min_7cf53 1 = .ok (.iload_n 1, 1) := by decide +kernel
theorem dJ9_min_7cf53_2 : decode cJ9_min_7cf53 2 = .ok (.if_icmp .gt 7, 3) := by decide +kernel
theorem dJ9_min_7cf53_5 : decode cJ9_min_7cf53 5 = .ok (.iload_n 0, 1) := by decide +kernel
theorem dJ9_min_7cf53_6 : decode cJ9_min_7cf53 6 = .ok (.goto 4, 3) := by decide +kernel
theorem dJ9_min_7cf53_9 : decode cJ9_min_7cf53 9 = .ok (.iload_n 1, 1) := by decide +kernel
theorem dJ9_min_7cf53_10 : decode cJ9_min_7cf53 10 = .ok (.ireturn, 1) := by decide +kernel
set_option maxRecDepth 20000 in
theorem ggJ0_length_8abf5_J0_coder_7d493 : GoodIn wsJ0_length_8abf5 wsJ0_coder_7d493 := goodIn_r _ [6, 7, 8] (by decide +kernel) (by decide +kernel)
set_option maxRecDepth 20000 in
theorem gJ0_length_8abf5_J0_coder_7d493 : GoodIn wsJ0_length_8abf5 (wsV RJ0 335 RJ0 yJ0_coder_7d493 wsJ0_coder_7d493) := goodIn_app (goodIn_of _ (by decide +kernel)) ggJ0_length_8abf5_J0_coder_7d493
theorem dJ0_length_8abf5_0 : decode cJ0_length_8abf5 0 = .ok (.aload_n 0, 1) := by decide +kernel
theorem dJ0_length_8abf5_1 : decode cJ0_length_8abf5 1 = .ok (.getfield 9, 3) := by decide +kernel
theorem dJ0_length_8abf5_4 : decode cJ0_length_8abf5 4 = .ok (.arraylength, 1) := by decide +kernel
theorem dJ0_length_8abf5_5 : decode cJ0_length_8abf5 5 = .ok (.aload_n 0, 1) := by decide +kernel
theorem dJ0_length_8abf5_6 : decode cJ0_length_8abf5 6 = .ok (.invokevirtual 335, 3) := by decide +kernel
theorem dJ0_length_8abf5_9 : decode cJ0_length_8abf5 9 = .ok (.ishr, 1) := by decide +kernel
theorem dJ0_length_8abf5_10 : decode cJ0_length_8abf5 10 = .ok (.ireturn, 1) := by decide +kernel
set_option maxRecDepth 20000 in
theorem ggJ0_indexOf_0f7a4_J0_indexOf_7cf53 : GoodIn wsJ0_indexOf_0f7a4 wsJ0_indexOf_7cf53 := goodIn_r _ [5, 6, 7, 8, 9, 4, 10, 11, 12, 13, 14, 15, 16, 17, 18, 19, 20, 21, 22, 23, 24, 25, 26, 27, 28, 29, 30, 31, 32, 33, 34, 35, 36, 37, 38, 39, 40, 41, 42, 43, 44, 45, 46, 47, 48, 49, 50, 51, 52, 53, 54, 55, 56, 57, 58, 59, 60, 61, 62, 63, 64, 65, 66, 67, 68, 69, 70, 71, 72, 73, 74, 75, 76, 77, 78, 79, 80, 81, 82, 83, 84, 85] (by decide +kernel) (by decide +kernel)
set_option maxRecDepth 20000 in
theorem gJ0_indexOf_0f7a4_J0_indexOf_7cf53 : GoodIn wsJ0_indexOf_0f7a4 (wsV RJ0 633 RJ0 yJ0_indexOf_7cf53 wsJ0_indexOf_7cf53) := goodIn_app (goodIn_of _ (by decide +kernel)) ggJ0_indexOf_0f7a4_J0_indexOf_7cf53
theorem dJ0_indexOf_0f7a4_0 : decode cJ0_indexOf_0f7a4 0 = .ok (.aload_n 0, 1) := by decide +kernel
theorem dJ0_indexOf_0f7a4_1 : decode cJ0_indexOf_0f7a4 1 = .ok (.iload_n 1, 1) := by decide +kernel
theorem dJ0_indexOf_0f7a4_2 : decode cJ0_indexOf_0f7a4 2 = .ok (.iconst 0, 1) := by decide +kernel
theorem dJ0_indexOf_0f7a4_3 : decode cJ0_indexOf_0f7a4 3 = .ok (.invokevirtual 633, 3) := by decide +kernel
theorem dJ0_indexOf_0f7a4_6 : decode cJ0_indexOf_0f7a4 6 = .ok (.ireturn, 1) := by decide +kernel
set_option maxRecDepth 20000 in
theorem ggJ0_indexOf_7cf53_J0_isLatin1_aae02 : GoodIn wsJ0_indexOf_7cf53 wsJ0_isLatin1_aae02 := goodIn_r _ [6, 7, 8] (by decide +kernel) (by decide +kernel)
set_option maxRecDepth 20000 in
theorem gJ0_indexOf_7cf53_J0_isLatin1_aae02 : GoodIn wsJ0_indexOf_7cf53 (wsV RJ0 492 RJ0 yJ0_isLatin1_aae02 wsJ0_isLatin1_aae02) := goodIn_app (goodIn_of _ (by decide +kernel)) ggJ0_indexOf_7cf53_J0_isLatin1_aae02
set_option maxRecDepth 20000 in
theorem ggJ0_indexOf_7cf53_J0_length_8abf5 : GoodIn wsJ0_indexOf_7cf53 wsJ0_length_8abf5 := goodIn_r _ [12, 1, 13, 14, 15, 5, 16, 7, 8] (by decide +kernel) (by decide +kernel)
set_option maxRecDepth 20000 in
theorem gJ0_indexOf_7cf53_J0_length_8abf5 : GoodIn wsJ0_indexOf_7cf53 (wsV RJ0 505 RJ0 yJ0_length_8abf5 wsJ0_length_8abf5) := goodIn_app (goodIn_of _ (by decide +kernel)) ggJ0_indexOf_7cf53_J0_length_8abf5
set_option maxRecDepth 20000 in
theorem ggJ0_indexOf_7cf53_J1_indexOf_4cfef : GoodIn wsJ0_indexOf_7cf53 wsJ1_indexOf_4cfef := goodIn_r _ [20, 21, 22, 23, 24, 25, 26, 27, 28, 29, 19, 30, 31, 32, 33] (by decide +kernel) (by decide +kernel)
set_option maxRecDepth 20000 in
theorem gJ0_indexOf_7cf53_J1_indexOf_4cfef : GoodIn wsJ0_indexOf_7cf53 (va_wsS RJ0 637 yJ1_indexOf_4cfef wsJ1_indexOf_4cfef) := goodIn_app (goodIn_of _ (by decide +kernel)) ggJ0_indexOf_7cf53_J1_indexOf_4cfef
set_option maxRecDepth 20000 in
theorem ggJ0_indexOf_7cf53_J2_indexOf_4cfef : GoodIn wsJ0_indexOf_7cf53 wsJ2_indexOf_4cfef := goodIn_r _ [37, 38, 22, 23, 24, 39, 26, 27, 40, 41, 42, 36, 43, 44, 45, 46, 47, 48, 49, 50, 51, 5, 52, 53, 54, 55, 56, 57, 58, 59, 60, 61, 62, 63, 64, 65, 66, 67, 68, 69, 70, 71, 72, 73, 74, 75, 76, 77, 78, 79, 80, 81] (by decide +kernel) (by decide +kernel)
set_option maxRecDepth 20000 in
theorem gJ0_indexOf_7cf53_J2_indexOf_4cfef : GoodIn wsJ0_indexOf_7cf53 (va_wsS RJ0 640 yJ2_indexOf_4cfef wsJ2_indexOf_4cfef) := goodIn_app (goodIn_of _ (by decide +kernel)) ggJ0_indexOf_7cf53_J2_indexOf_4cfef
theorem dJ0_indexOf_7cf53_0 : decode cJ0_indexOf_7cf53 0 = .ok (.aload_n 0, 1) := by decide +kernel
theorem dJ0_indexOf_7cf53_1 : decode cJ0_indexOf_7cf53 1 = .ok (.invokevirtual 492, 3) := by decide +kernel
theorem dJ0_indexOf_7cf53_4 : decode cJ0_indexOf_7cf53 4 = .ok (.ifCond .eq 19, 3) := by decide +kernel
theorem dJ0_indexOf_7cf53_7 : decode cJ0_indexOf_7cf53 7 = .ok (.aload_n 0, 1) := by decide +kernel
theorem dJ0_indexOf_7cf53_8 : decode cJ0_indexOf_7cf53 8 = .ok (.getfield 9, 3) := by decide +kernel
theorem dJ0_indexOf_7cf53_11 : decode cJ0_indexOf_7cf53 11 = .ok (.iload_n 1, 1) := by decide +kernel
theorem dJ0_indexOf_7cf53_12 : decode cJ0_indexOf_7cf53 12 = .ok (.iload_n 2, 1) := by decide +kernel
theorem dJ0_indexOf_7cf53_13 : decode cJ0_indexOf_7cf53 13 = .ok (.aload_n 0, 1) := by decide +kernel
theorem dJ0_indexOf_7cf53_14 : decode cJ0_indexOf_7cf53 14 = .ok (.invokevirtual 505, 3) := by decide +kernel
theorem dJ0_indexOf_7cf53_17 : decode cJ0_indexOf_7cf53 17 = .ok (.invokestatic 637, 3) := by decide +kernel
theorem dJ0_indexOf_7cf53_20 : decode cJ0_indexOf_7cf53 20 = .ok (.goto 16, 3) := by decide +kernel
theorem dJ0_indexOf_7cf53_23 : decode cJ0_indexOf_7cf53 23 = .ok (.aload_n 0, 1) := by decide +kernel
theorem dJ0_indexOf_7cf53_24 : decode cJ0_indexOf_7cf53 24 = .ok (.getfield 9, 3) := by decide +kernel
theorem dJ0_indexOf_7cf53_27 : decode cJ0_indexOf_7cf53 27 = .ok (.iload_n 1, 1) := by decide +kernel
theorem dJ0_indexOf_7cf53_28 : decode cJ0_indexOf_7cf53 28 = .ok (.iload_n 2, 1) := by decide +kernel
theorem dJ0_indexOf_7cf53_29 : decode cJ0_indexOf_7cf53 29 = .ok (.aload_n 0, 1) := by decide +kernel
theorem dJ0_indexOf_7cf53_30 : decode cJ0_indexOf_7cf53 30 = .ok (.invokevirtual 505, 3) := by decide +kernel
theorem dJ0_indexOf_7cf53_33 : decode cJ0_indexOf_7cf53 33 = .ok (.invokestatic 640, 3) := by decide +kernel
theorem dJ0_indexOf_7cf53_36 : decode cJ0_indexOf_7cf53 36 = .ok (.ireturn, 1) := by decide +kernel
theorem dJ0_coder_7d493_0 : decode cJ0_coder_7d493 0 = .ok (.getstatic 38, 3) := by decide +kernel
theorem dJ0_coder_7d493_3 : decode cJ0_coder_7d493 3 = .ok (.ifCond .eq 10, 3) := by decide +kernel
theorem dJ0_coder_7d493_6 : decode cJ0_coder_7d493 6 = .ok (.aload_n 0, 1) := by decide +kernel
theorem dJ0_coder_7d493_7 : decode cJ0_coder_7d493 7 = .ok (.getfield 15, 3) := by decide +kernel
theorem dJ0_coder_7d493_10 : decode cJ0_coder_7d493 10 = .ok (.goto 4, 3) := by decide +kernel
theorem dJ0_coder_7d493_13 : decode cJ0_coder_7d493 13 = .ok (.iconst 1, 1) := by decide +kernel
theorem dJ0_coder_7d493_14 : decode cJ0_coder_7d493 14 = .ok (.ireturn, 1) := by decide +kernel
theorem dJ0_isLatin1_aae02_0 : decode cJ0_isLatin1_aae02 0 = .ok (.getstatic 38, 3) := by decide +kernel
theorem dJ0_isLatin1_aae02_3 : decode cJ0_isLatin1_aae02 3 = .ok (.ifCond .eq 14, 3) := by decide +kernel
theorem dJ0_isLatin1_aae02_6 : decode cJ0_isLatin1_aae02 6 = .ok (.aload_n 0, 1) := by decide +kernel
theorem dJ0_isLatin1_aae02_7 : decode cJ0_isLatin1_aae02 7 = .ok (.getfield 15, 3) := by decide +kernel
theorem dJ0_isLatin1_aae02_10 : decode cJ0_isLatin1_aae02 10 = .ok (.ifCond .ne 7, 3) := by decide +kernel
theorem dJ0_isLatin1_aae02_13 : decode cJ0_isLatin1_aae02 13 = .ok (.iconst 1, 1) := by decide +kernel
theorem dJ0_isLatin1_aae02_14 : decode cJ0_isLatin1_aae02 14 = .ok (.goto 4, 3) := by decide +kernel
theorem dJ0_isLatin1_aae02_17 : decode cJ0_isLatin1_aae02 17 = .ok (.iconst 0, 1) := by decide +kernel
theorem dJ0_isLatin1_aae02_18 : decode cJ0_isLatin1_aae02 18 = .ok (.ireturn, 1) := by decide +kernel
set_option maxRecDepth 20000 in
theorem ggJ0_checkBoundsBeginEnd_23922_J3_checkFromToIndex_8c36e : GoodIn wsJ0_checkBoundsBeginEnd_23922 wsJ3_checkFromToIndex_8c36e := goodIn_r _ [5] (by decide +kernel) (by decide +kernel)
set_option maxRecDepth 20000 in
theorem gJ0_checkBoundsBeginEnd_23922_J3_checkFromToIndex_8c36e : GoodIn wsJ0_checkBoundsBeginEnd_23922 (va_wsS RJ0 1062 yJ3_checkFromToIndex_8c36e wsJ3_checkFromToIndex_8c36e) := goodIn_app (goodIn_of _ (by decide +kernel)) ggJ0_checkBoundsBeginEnd_23922_J3_checkFromToIndex_8c36e
theorem dJ0_checkBoundsBeginEnd_23922_0 : decode cJ0_checkBoundsBeginEnd_23922 0 = .ok (.iload_n 0, 1) := by decide +kernel
theorem dJ0_checkBoundsBeginEnd_23922_1 : decode cJ0_checkBoundsBeginEnd_23922 1 = .ok (.iload_n 1, 1) := by decide +kernel
theorem dJ0_checkBoundsBeginEnd_23922_2 : decode cJ0_checkBoundsBeginEnd_23922 2 = .ok (.iload_n 2, 1) := by decide +kernel
theorem dJ0_checkBoundsBeginEnd_23922_3 : decode cJ0_checkBoundsBeginEnd_23922 3 = .ok (.getstatic 1053, 3) := by decide +kernel
theorem dJ0_checkBoundsBeginEnd_23922_6 : decode cJ0_checkBoundsBeginEnd_23922 6 = .ok (.invokestatic 1062, 3) := by decide +kernel
theorem dJ0_checkBoundsBeginEnd_23922_9 : decode cJ0_checkBoundsBeginEnd_23922 9 = .ok (.pop, 1) := by decide +kernel
theorem dJ0_checkBoundsBeginEnd_23922_10 : decode cJ0_checkBoundsBeginEnd_23922 10 = .ok (.return_, 1) := by decide +kernel
theorem dJ1_canEncode_9a6ad_0 : decode cJ1_canEncode_9a6ad 0 = .ok (.iload_n 0, 1) := by decide +kernel
theorem dJ1_canEncode_9a6ad_1 : decode cJ1_canEncode_9a6ad 1 = .ok (.ifCond .lt 14, 3) := by decide +kernel
theorem dJ1_canEncode_9a6ad_4 : decode cJ1_canEncode_9a6ad 4 = .ok (.iload_n 0, 1) := by decide +kernel
theorem dJ1_canEncode_9a6ad_5 : decode cJ1_canEncode_9a6ad 5 = .ok (.sipush 255, 3) := by decide +kernel
theorem dJ1_canEncode_9a6ad_8 : decode cJ1_canEncode_9a6ad 8 = .ok (.if_icmp .gt 7, 3) := by decide +kernel
theorem dJ1_canEncode_9a6ad_11 : decode cJ1_canEncode_9a6ad 11 = .ok (.iconst 1, 1) := by decide +kernel
theorem dJ1_canEncode_9a6ad_12 : decode cJ1_canEncode_9a6ad 12 = .ok (.goto 4, 3) := by decide +kernel
theorem dJ1_canEncode_9a6ad_15 : decode cJ1_canEncode_9a6ad 15 = .ok (.iconst 0, 1) := by decide +kernel
theorem dJ1_canEncode_9a6ad_16 : decode cJ1_canEncode_9a6ad 16 = .ok (.ireturn, 1) := by decide +kernel
set_option maxRecDepth 20000 in
theorem ggJ1_indexOf_4cfef_J1_canEncode_9a6ad : GoodIn wsJ1_indexOf_4cfef wsJ1_canEncode_9a6ad := goodIn_r _ [11] (by decide +kernel) (by decide +kernel)
set_option maxRecDepth 20000 in
theorem gJ1_indexOf_4cfef_J1_canEncode_9a6ad : GoodIn wsJ1_indexOf_4cfef (va_wsS RJ1 88 yJ1_canEncode_9a6ad wsJ1_canEncode_9a6ad) := goodIn_app (goodIn_of _ (by decide +kernel)) ggJ1_indexOf_4cfef_J1_canEncode_9a6ad
set_option maxRecDepth 20000 in
theorem ggJ1_indexOf_4cfef_J1_indexOfChar_4cfef : GoodIn wsJ1_indexOf_4cfef wsJ1_indexOfChar_4cfef := goodIn_r _ [14] (by decide +kernel) (by decide +kernel)
set_option maxRecDepth 20000 in
theorem gJ1_indexOf_4cfef_J1_indexOfChar_4cfef : GoodIn wsJ1_indexOf_4cfef (va_wsS RJ1 95 yJ1_indexOfChar_4cfef wsJ1_indexOfChar_4cfef) := goodIn_app (goodIn_of _ (by decide +kernel)) ggJ1_indexOf_4cfef_J1_indexOfChar_4cfef
theorem dJ1_indexOf_4cfef_0 : decode cJ1_indexOf_4cfef 0 = .ok (.iload_n 1, 1) := by decide +kernel
theorem dJ1_indexOf_4cfef_1 : decode cJ1_indexOf_4cfef 1 = .ok (.invokestatic 88, 3) := by decide +kernel
theorem dJ1_indexOf_4cfef_4 : decode cJ1_indexOf_4cfef 4 = .ok (.ifCond .ne 5, 3) := by decide +kernel
theorem dJ1_indexOf_4cfef_7 : decode cJ1_indexOf_4cfef 7 = .ok (.iconst (-1), 1) := by decide +kernel
theorem dJ1_indexOf_4cfef_8 : decode cJ1_indexOf_4cfef 8 = .ok (.ireturn, 1) := by decide +kernel
theorem dJ1_indexOf_4cfef_9 : decode cJ1_indexOf_4cfef 9 = .ok (.iload_n 2, 1) := by decide +kernel
theorem dJ1_indexOf_4cfef_10 : decode cJ1_indexOf_4cfef 10 = .ok (.iconst 0, 1) := by decide +kernel
theorem dJ1_indexOf_4cfef_11 : decode cJ1_indexOf_4cfef 11 = .ok (.invokestatic 92, 3) := by decide +kernel
theorem dJ1_indexOf_4cfef_14 : decode cJ1_indexOf_4cfef 14 = .ok (.istore_n 2, 1) := by decide +kernel
theorem dJ1_indexOf_4cfef_15 : decode cJ1_indexOf_4cfef 15 = .ok (.iload_n 3, 1) := by decide +kernel
theorem dJ1_indexOf_4cfef_16 : decode cJ1_indexOf_4cfef 16 = .ok (.aload_n 0, 1) := by decide +kernel
theorem dJ1_indexOf_4cfef_17 : decode cJ1_indexOf_4cfef 17 = .ok (.arraylength, 1) := by decide +kernel
theorem dJ1_indexOf_4cfef_18 : decode cJ1_indexOf_4cfef 18 = .ok (.invokestatic 38, 3) := by decide +kernel
theorem dJ1_indexOf_4cfef_21 : decode cJ1_indexOf_4cfef 21 = .ok (.istore_n 3, 1) := by decide +kernel
theorem dJ1_indexOf_4cfef_22 : decode cJ1_indexOf_4cfef 22 = .ok (.iload_n 2, 1) := by decide +kernel
theorem dJ1_indexOf_4cfef_23 : decode cJ1_indexOf_4cfef 23 = .ok (.iload_n 3, 1) := by decide +kernel
theorem dJ1_indexOf_4cfef_24 : decode cJ1_indexOf_4cfef 24 = .ok (.if_icmp .lt 5, 3) := by decide +kernel
theorem dJ1_indexOf_4cfef_27 : decode cJ1_indexOf_4cfef 27 = .ok (.iconst (-1), 1) := by decide +kernel
theorem dJ1_indexOf_4cfef_28 : decode cJ1_indexOf_4cfef 28 = .ok (.ireturn, 1) := by decide +kernel
theorem dJ1_indexOf_4cfef_29 : decode cJ1_indexOf_4cfef 29 = .ok (.aload_n 0, 1) := by decide +kernel
theorem dJ1_indexOf_4cfef_30 : decode cJ1_indexOf_4cfef 30 = .ok (.iload_n 1, 1) := by decide +kernel
theorem dJ1_indexOf_4cfef_31 : decode cJ1_indexOf_4cfef 31 = .ok (.iload_n 2, 1) := by decide +kernel
theorem dJ1_indexOf_4cfef_32 : decode cJ1_indexOf_4cfef 32 = .ok (.iload_n 3, 1) := by decide +kernel
theorem dJ1_indexOf_4cfef_33 : decode cJ1_indexOf_4cfef 33 = .ok (.invokestatic 95, 3) := by decide +kernel
theorem dJ1_indexOf_4cfef_36 : decode cJ1_indexOf_4cfef 36 = .ok (.ireturn, 1) := by decide +kernel
theorem dJ1_indexOfChar_4cfef_0 : decode cJ1_indexOfChar_4cfef 0 = .ok (.iload_n 1, 1) := by decide +kernel
theorem dJ1_indexOfChar_4cfef_1 : decode cJ1_indexOfChar_4cfef 1 = .ok (.i2b, 1) := by decide +kernel
theorem dJ1_indexOfChar_4cfef_2 : decode cJ1_indexOfChar_4cfef 2 = .ok (.istore 4, 2) := by decide +kernel
theorem dJ1_indexOfChar_4cfef_4 : decode cJ1_indexOfChar_4cfef 4 = .ok (.iload_n 2, 1) := by decide +kernel
theorem dJ1_indexOfChar_4cfef_5 : decode cJ1_indexOfChar_4cfef 5 = .ok (.istore 5, 2) := by decide +kernel
theorem dJ1_indexOfChar_4cfef_7 : decode cJ1_indexOfChar_4cfef 7 = .ok (.iload 5, 2) := by decide +kernel
theorem dJ1_indexOfChar_4cfef_9 : decode cJ1_indexOfChar_4cfef 9 = .ok (.iload_n 3, 1) := by decide +kernel
theorem dJ1_indexOfChar_4cfef_10 : decode cJ1_indexOfChar_4cfef 10 = .ok (.if_icmp .ge 21, 3) := by decide +kernel
theorem dJ1_indexOfChar_4cfef_13 : decode cJ1_indexOfChar_4cfef 13 = .ok (.aload_n 0, 1) := by decide +kernel
theorem dJ1_indexOfChar_4cfef_14 : decode cJ1_indexOfChar_4cfef 14 = .ok (.iload 5, 2) := by decide +kernel
theorem dJ1_indexOfChar_4cfef_16 : decode cJ1_indexOfChar_4cfef 16 = .ok (.baload, 1) := by decide +kernel
theorem dJ1_indexOfChar_4cfef_17 : decode cJ1_indexOfChar_4cfef 17 = .ok (.iload 4, 2) := by decide +kernel
theorem dJ1_indexOfChar_4cfef_19 : decode cJ1_indexOfChar_4cfef 19 = .ok (.if_icmp .ne 6, 3) := by decide +kernel
theorem dJ1_indexOfChar_4cfef_22 : decode cJ1_indexOfChar_4cfef 22 = .ok (.iload 5, 2) := by decide +kernel
theorem dJ1_indexOfChar_4cfef_24 : decode cJ1_indexOfChar_4cfef 24 = .ok (.ireturn, 1) := by decide +kernel
theorem dJ1_indexOfChar_4cfef_25 : decode cJ1_indexOfChar_4cfef 25 = .ok (.iinc 5 1, 3) := by decide +kernel
theorem dJ1_indexOfChar_4cfef_28 : decode cJ1_indexOfChar_4cfef 28 = .ok (.goto (-21), 3) := by decide +kernel
theorem dJ1_indexOfChar_4cfef_31 : decode cJ1_indexOfChar_4cfef 31 = .ok (.iconst (-1), 1) := by decide +kernel
theorem dJ1_indexOfChar_4cfef_32 : decode cJ1_indexOfChar_4cfef 32 = .ok (.ireturn, 1) := by decide +kernel
set_option maxRecDepth 20000 in
theorem ggJ2_getChar_3b067_J2_length_9d52b : GoodIn wsJ2_getChar_3b067 wsJ2_length_9d52b := goodIn_r _ [7] (by decide +kernel) (by decide +kernel)
set_option maxRecDepth 20000 in
theorem gJ2_getChar_3b067_J2_length_9d52b : GoodIn wsJ2_getChar_3b067 (va_wsS RJ2 48 yJ2_length_9d52b wsJ2_length_9d52b) := goodIn_app (goodIn_of _ (by decide +kernel)) ggJ2_getChar_3b067_J2_length_9d52b
theorem dJ2_getChar_3b067_0 : decode cJ2_getChar_3b067 0 = .ok (.getstatic 44, 3) := by decide +kernel
theorem dJ2_getChar_3b067_3 : decode cJ2_getChar_3b067 3 = .ok (.ifCond .ne 25, 3) := by decide +kernel
theorem dJ2_getChar_3b067_6 : decode cJ2_getChar_3b067 6 = .ok (.iload_n 1, 1) := by decide +kernel
theorem dJ2_getChar_3b067_7 : decode cJ2_getChar_3b067 7 = .ok (.ifCond .lt 11, 3) := by decide +kernel
theorem dJ2_getChar_3b067_10 : decode cJ2_getChar_3b067 10 = .ok (.iload_n 1, 1) := by decide +kernel
theorem dJ2_getChar_3b067_11 : decode cJ2_getChar_3b067 11 = .ok (.aload_n 0, 1) := by decide +kernel
theorem dJ2_getChar_3b067_12 : decode cJ2_getChar_3b067 12 = .ok (.invokestatic 48, 3) := by decide +kernel
theorem dJ2_getChar_3b067_15 : decode cJ2_getChar_3b067 15 = .ok (.if_icmp .lt 13, 3) := by decide +kernel
theorem dJ2_getChar_3b067_18 : decode cJ2_getChar_3b067 18 = .ok (.new 52, 3) := by decide +kernel
theorem dJ2_getChar_3b067_21 : decode cJ2_getChar_3b067 21 = .ok (.dup, 1) := by decide +kernel
theorem dJ2_getChar_3b067_22 : decode cJ2_getChar_3b067 22 = .ok (.ldc 54, 2) := by decide +kernel
theorem dJ2_getChar_3b067_24 : decode cJ2_getChar_3b067 24 = .ok (.invokespecial 56, 3) := by decide +kernel
theorem dJ2_getChar_3b067_27 : decode cJ2_getChar_3b067 27 = .ok (.athrow, 1) := by decide +kernel
theorem dJ2_getChar_3b067_28 : decode cJ2_getChar_3b067 28 = .ok (.iload_n 1, 1) := by decide +kernel
theorem dJ2_getChar_3b067_29 : decode cJ2_getChar_3b067 29 = .ok (.iconst 1, 1) := by decide +kernel
theorem dJ2_getChar_3b067_30 : decode cJ2_getChar_3b067 30 = .ok (.ishl, 1) := by decide +kernel
theorem dJ2_getChar_3b067_31 : decode cJ2_getChar_3b067 31 = .ok (.istore_n 1, 1) := by decide +kernel
theorem dJ2_getChar_3b067_32 : decode cJ2_getChar_3b067 32 = .ok (.aload_n 0, 1) := by decide +kernel
theorem dJ2_getChar_3b067_33 : decode cJ2_getChar_3b067 33 = .ok (.iload_n 1, 1) := by decide +kernel
theorem dJ2_getChar_3b067_34 : decode cJ2_getChar_3b067 34 = .ok (.iinc 1 1, 3) := by decide +kernel
theorem dJ2_getChar_3b067_37 : decode cJ2_getChar_3b067 37 = .ok (.baload, 1) := by decide +kernel
theorem dJ2_getChar_3b067_38 : decode cJ2_getChar_3b067 38 = .ok (.sipush 255, 3) := by decide +kernel
theorem dJ2_getChar_3b067_41 : decode cJ2_getChar_3b067 41 = .ok (.iand, 1) := by decide +kernel
theorem dJ2_getChar_3b067_42 : decode cJ2_getChar_3b067 42 = .ok (.getstatic 59, 3) := by decide +kernel
theorem dJ2_getChar_3b067_45 : decode cJ2_getChar_3b067 45 = .ok (.ishl, 1) := by decide +kernel
theorem dJ2_getChar_3b067_46 : decode cJ2_getChar_3b067 46 = .ok (.aload_n 0, 1) := by decide +kernel
theorem dJ2_getChar_3b067_47 : decode cJ2_getChar_3b067 47 = .ok (.iload_n 1, 1) := by decide +kernel
theorem dJ2_getChar_3b067_48 : decode cJ2_getChar_3b067 48 = .ok (.baload, 1) := by decide +kernel
theorem dJ2_getChar_3b067_49 : decode cJ2_getChar_3b067 49 = .ok (.sipush 255, 3) := by decide +kernel
theorem dJ2_getChar_3b067_52 : decode cJ2_getChar_3b067 52 = .ok (.iand, 1) := by decide +kernel
theorem dJ2_getChar_3b067_53 : decode cJ2_getChar_3b067 53 = .ok (.getstatic 63, 3) := by decide +kernel
theorem dJ2_getChar_3b067_56 : decode cJ2_getChar_3b067 56 = .ok (.ishl, 1) := by decide +kernel
theorem dJ2_getChar_3b067_57 : decode cJ2_getChar_3b067 57 = .ok (.ior, 1) := by decide +kernel
theorem dJ2_getChar_3b067_58 : decode cJ2_getChar_3b067 58 = .ok (.i2c, 1) := by decide +kernel
theorem dJ2_getChar_3b067_59 : decode cJ2_getChar_3b067 59 = .ok (.ireturn, 1) := by decide +kernel
theorem dJ2_length_9d52b_0 : decode cJ2_length_9d52b 0 = .ok (.aload_n 0, 1) := by decide +kernel
theorem dJ2_length_9d52b_1 : decode cJ2_length_9d52b 1 = .ok (.arraylength, 1) := by decide +kernel
theorem dJ2_length_9d52b_2 : decode cJ2_length_9d52b 2 = .ok (.iconst 1, 1) := by decide +kernel
theorem dJ2_length_9d52b_3 : decode cJ2_length_9d52b 3 = .ok (.ishr, 1) := by decide +kernel
theorem dJ2_length_9d52b_4 : decode cJ2_length_9d52b 4 = .ok (.ireturn, 1) := by decide +kernel
set_option maxRecDepth 20000 in
theorem ggJ2_indexOf_4cfef_J2_indexOfChar_4cfef : GoodIn wsJ2_indexOf_4cfef wsJ2_indexOfChar_4cfef := goodIn_r _ [12, 13, 14, 11, 15, 16, 17, 18, 19, 20, 21, 22, 23, 24, 25, 26, 27, 28, 29, 30, 31, 32, 33, 34, 35, 36] (by decide +kernel) (by decide +kernel)
set_option maxRecDepth 20000 in
theorem gJ2_indexOf_4cfef_J2_indexOfChar_4cfef : GoodIn wsJ2_indexOf_4cfef (va_wsS RJ2 228 yJ2_indexOfChar_4cfef wsJ2_indexOfChar_4cfef) := goodIn_app (goodIn_of _ (by decide +kernel)) ggJ2_indexOf_4cfef_J2_indexOfChar_4cfef
set_option maxRecDepth 20000 in
theorem ggJ2_indexOf_4cfef_J2_indexOfSupplementary_4cfef : GoodIn wsJ2_indexOf_4cfef wsJ2_indexOfSupplementary_4cfef := goodIn_r _ [39, 40, 41, 42, 43, 44, 45, 46, 47, 48, 49, 50, 51, 13, 14, 11, 15, 16, 17, 18, 19, 20, 21, 22, 23, 24, 25, 26, 27, 31, 32, 33, 34, 35, 36] (by decide +kernel) (by decide +kernel)
set_option maxRecDepth 20000 in
theorem gJ2_indexOf_4cfef_J2_indexOfSupplementary_4cfef : GoodIn wsJ2_indexOf_4cfef (va_wsS RJ2 232 yJ2_indexOfSupplementary_4cfef wsJ2_indexOfSupplementary_4cfef) := goodIn_app (goodIn_of _ (by decide +kernel)) ggJ2_indexOf_4cfef_J2_indexOfSupplementary_4cfef
theorem dJ2_indexOf_4cfef_0 : decode cJ2_indexOf_4cfef 0 = .ok (.iload_n 2, 1) := by decide +kernel
theorem dJ2_indexOf_4cfef_1 : decode cJ2_indexOf_4cfef 1 = .ok (.iconst 0, 1) := by decide +kernel
theorem dJ2_indexOf_4cfef_2 : decode cJ2_indexOf_4cfef 2 = .ok (.invokestatic 224, 3) := by decide +kernel
theorem dJ2_indexOf_4cfef_5 : decode cJ2_indexOf_4cfef 5 = .ok (.istore_n 2, 1) := by decide +kernel
theorem dJ2_indexOf_4cfef_6 : decode cJ2_indexOf_4cfef 6 = .ok (.iload_n 3, 1) := by decide +kernel
theorem dJ2_indexOf_4cfef_7 : decode cJ2_indexOf_4cfef 7 = .ok (.aload_n 0, 1) := by decide +kernel
theorem dJ2_indexOf_4cfef_8 : decode cJ2_indexOf_4cfef 8 = .ok (.arraylength, 1) := by decide +kernel
theorem dJ2_indexOf_4cfef_9 : decode cJ2_indexOf_4cfef 9 = .ok (.iconst 1, 1) := by decide +kernel
theorem dJ2_indexOf_4cfef_10 : decode cJ2_indexOf_4cfef 10 = .ok (.ishr, 1) := by decide +kernel
theorem dJ2_indexOf_4cfef_11 : decode cJ2_indexOf_4cfef 11 = .ok (.invokestatic 183, 3) := by decide +kernel
theorem dJ2_indexOf_4cfef_14 : decode cJ2_indexOf_4cfef 14 = .ok (.istore_n 3, 1) := by decide +kernel
theorem dJ2_indexOf_4cfef_15 : decode cJ2_indexOf_4cfef 15 = .ok (.iload_n 2, 1) := by decide +kernel
theorem dJ2_indexOf_4cfef_16 : decode cJ2_indexOf_4cfef 16 = .ok (.iload_n 3, 1) := by decide +kernel
theorem dJ2_indexOf_4cfef_17 : decode cJ2_indexOf_4cfef 17 = .ok (.if_icmp .lt 5, 3) := by decide +kernel
theorem dJ2_indexOf_4cfef_20 : decode cJ2_indexOf_4cfef 20 = .ok (.iconst (-1), 1) := by decide +kernel
theorem dJ2_indexOf_4cfef_21 : decode cJ2_indexOf_4cfef 21 = .ok (.ireturn, 1) := by decide +kernel
theorem dJ2_indexOf_4cfef_22 : decode cJ2_indexOf_4cfef 22 = .ok (.iload_n 1, 1) := by decide +kernel
theorem dJ2_indexOf_4cfef_23 : decode cJ2_indexOf_4cfef 23 = .ok (.ldc 227, 2) := by decide +kernel
theorem dJ2_indexOf_4cfef_25 : decode cJ2_indexOf_4cfef 25 = .ok (.if_icmp .ge 11, 3) := by decide +kernel
theorem dJ2_indexOf_4cfef_28 : decode cJ2_indexOf_4cfef 28 = .ok (.aload_n 0, 1) := by decide +kernel
theorem dJ2_indexOf_4cfef_29 : decode cJ2_indexOf_4cfef 29 = .ok (.iload_n 1, 1) := by decide +kernel
theorem dJ2_indexOf_4cfef_30 : decode cJ2_indexOf_4cfef 30 = .ok (.iload_n 2, 1) := by decide +kernel
theorem dJ2_indexOf_4cfef_31 : decode cJ2_indexOf_4cfef 31 = .ok (.iload_n 3, 1) := by decide +kernel
theorem dJ2_indexOf_4cfef_32 : decode cJ2_indexOf_4cfef 32 = .ok (.invokestatic 228, 3) := by decide +kernel
theorem dJ2_indexOf_4cfef_35 : decode cJ2_indexOf_4cfef 35 = .ok (.ireturn, 1) := by decide +kernel
theorem dJ2_indexOf_4cfef_36 : decode cJ2_indexOf_4cfef 36 = .ok (.aload_n 0, 1) := by decide +kernel
theorem dJ2_indexOf_4cfef_37 : decode cJ2_indexOf_4cfef 37 = .ok (.iload_n 1, 1) := by decide +kernel
theorem dJ2_indexOf_4cfef_38 : decode cJ2_indexOf_4cfef 38 = .ok (.iload_n 2, 1) := by decide +kernel
theorem dJ2_indexOf_4cfef_39 : decode cJ2_indexOf_4cfef 39 = .ok (.iload_n 3, 1) := by decide +kernel
theorem dJ2_indexOf_4cfef_40 : decode cJ2_indexOf_4cfef 40 = .ok (.invokestatic 232, 3) := by decide +kernel
theorem dJ2_indexOf_4cfef_43 : decode cJ2_indexOf_4cfef 43 = .ok (.ireturn, 1) := by decide +kernel
set_option maxRecDepth 20000 in
theorem ggJ2_indexOfChar_4cfef_J2_checkBoundsBeginEnd_d044e : GoodIn wsJ2_indexOfChar_4cfef wsJ2_checkBoundsBeginEnd_d044e := goodIn_r _ [4, 5, 6, 3, 7, 8, 9, 10, 11, 12, 13, 14, 15, 16] (by decide +kernel) (by decide +kernel)
set_option maxRecDepth 20000 in
theorem gJ2_indexOfChar_4cfef_J2_checkBoundsBeginEnd_d044e : GoodIn wsJ2_indexOfChar_4cfef (va_wsS RJ2 96 yJ2_checkBoundsBeginEnd_d044e wsJ2_checkBoundsBeginEnd_d044e) := goodIn_app (goodIn_of _ (by decide +kernel)) ggJ2_indexOfChar_4cfef_J2_checkBoundsBeginEnd_d044e
set_option maxRecDepth 20000 in
theorem ggJ2_indexOfChar_4cfef_J2_indexOfCharUnsafe_4cfef : GoodIn wsJ2_indexOfChar_4cfef wsJ2_indexOfCharUnsafe_4cfef := goodIn_r _ [19, 20, 21, 3, 22, 23, 24, 25, 5, 6, 7] (by decide +kernel) (by decide +kernel)
set_option maxRecDepth 20000 in
theorem gJ2_indexOfChar_4cfef_J2_indexOfCharUnsafe_4cfef : GoodIn wsJ2_indexOfChar_4cfef (va_wsS RJ2 244 yJ2_indexOfCharUnsafe_4cfef wsJ2_indexOfCharUnsafe_4cfef) := goodIn_app (goodIn_of _ (by decide +kernel)) ggJ2_indexOfChar_4cfef_J2_indexOfCharUnsafe_4cfef
theorem dJ2_indexOfChar_4cfef_0 : decode cJ2_indexOfChar_4cfef 0 = .ok (.iload_n 2, 1) := by decide +kernel
theorem dJ2_indexOfChar_4cfef_1 : decode cJ2_indexOfChar_4cfef 1 = .ok (.iload_n 3, 1) := by decide +kernel
theorem dJ2_indexOfChar_4cfef_2 : decode cJ2_indexOfChar_4cfef 2 = .ok (.aload_n 0, 1) := by decide +kernel
theorem dJ2_indexOfChar_4cfef_3 : decode cJ2_indexOfChar_4cfef 3 = .ok (.invokestatic 96, 3) := by decide +kernel
theorem dJ2_indexOfChar_4cfef_6 : decode cJ2_indexOfChar_4cfef 6 = .ok (.aload_n 0, 1) := by decide +kernel
theorem dJ2_indexOfChar_4cfef_7 : decode cJ2_indexOfChar_4cfef 7 = .ok (.iload_n 1, 1) := by decide +kernel
theorem dJ2_indexOfChar_4cfef_8 : decode cJ2_indexOfChar_4cfef 8 = .ok (.iload_n 2, 1) := by decide +kernel
theorem dJ2_indexOfChar_4cfef_9 : decode cJ2_indexOfChar_4cfef 9 = .ok (.iload_n 3, 1) := by decide +kernel
theorem dJ2_indexOfChar_4cfef_10 : decode cJ2_indexOfChar_4cfef 10 = .ok (.invokestatic 244, 3) := by decide +kernel
theorem dJ2_indexOfChar_4cfef_13 : decode cJ2_indexOfChar_4cfef 13 = .ok (.ireturn, 1) := by decide +kernel
set_option maxRecDepth 20000 in
theorem ggJ2_indexOfCharUnsafe_4cfef_J2_getChar_3b067 : GoodIn wsJ2_indexOfCharUnsafe_4cfef wsJ2_getChar_3b067 := goodIn_r _ [4, 5, 6, 7, 8, 9, 3, 10] (by decide +kernel) (by decide +kernel)
set_option maxRecDepth 20000 in
theorem gJ2_indexOfCharUnsafe_4cfef_J2_getChar_3b067 : GoodIn wsJ2_indexOfCharUnsafe_4cfef (va_wsS RJ2 71 yJ2_getChar_3b067 wsJ2_getChar_3b067) := goodIn_app (goodIn_of _ (by decide +kernel)) ggJ2_indexOfCharUnsafe_4cfef_J2_getChar_3b067
theorem dJ2_indexOfCharUnsafe_4cfef_0 : decode cJ2_indexOfCharUnsafe_4cfef 0 = .ok (.iload_n 2, 1) := by decide +kernel
theorem dJ2_indexOfCharUnsafe_4cfef_1 : decode cJ2_indexOfCharUnsafe_4cfef 1 = .ok (.istore 4, 2) := by decide +kernel
theorem dJ2_indexOfCharUnsafe_4cfef_3 : decode cJ2_indexOfCharUnsafe_4cfef 3 = .ok (.iload 4, 2) := by decide +kernel
theorem dJ2_indexOfCharUnsafe_4cfef_5 : decode cJ2_indexOfCharUnsafe_4cfef 5 = .ok (.iload_n 3, 1) := by decide +kernel
theorem dJ2_indexOfCharUnsafe_4cfef_6 : decode cJ2_indexOfCharUnsafe_4cfef 6 = .ok (.if_icmp .ge 22, 3) := by decide +kernel
theorem dJ2_indexOfCharUnsafe_4cfef_9 : decode cJ2_indexOfCharUnsafe_4cfef 9 = .ok (.aload_n 0, 1) := by decide +kernel
theorem dJ2_indexOfCharUnsafe_4cfef_10 : decode cJ2_indexOfCharUnsafe_4cfef 10 = .ok (.iload 4, 2) := by decide +kernel
theorem dJ2_indexOfCharUnsafe_4cfef_12 : decode cJ2_indexOfCharUnsafe_4cfef 12 = .ok (.invokestatic 71, 3) := by decide +kernel
theorem dJ2_indexOfCharUnsafe_4cfef_15 : decode cJ2_indexOfCharUnsafe_4cfef 15 = .ok (.iload_n 1, 1) := by decide +kernel
theorem dJ2_indexOfCharUnsafe_4cfef_16 : decode cJ2_indexOfCharUnsafe_4cfef 16 = .ok (.if_icmp .ne 6, 3) := by decide +kernel
theorem dJ2_indexOfCharUnsafe_4cfef_19 : decode cJ2_indexOfCharUnsafe_4cfef 19 = .ok (.iload 4, 2) := by decide +kernel
theorem dJ2_indexOfCharUnsafe_4cfef_21 : decode cJ2_indexOfCharUnsafe_4cfef 21 = .ok (.ireturn, 1) := by decide +kernel
theorem dJ2_indexOfCharUnsafe_4cfef_22 : decode cJ2_indexOfCharUnsafe_4cfef 22 = .ok (.iinc 4 1, 3) := by decide +kernel
theorem dJ2_indexOfCharUnsafe_4cfef_25 : decode cJ2_indexOfCharUnsafe_4cfef 25 = .ok (.goto (-22), 3) := by decide +kernel
theorem dJ2_indexOfCharUnsafe_4cfef_28 : decode cJ2_indexOfCharUnsafe_4cfef 28 = .ok (.iconst (-1), 1) := by decide +kernel
theorem dJ2_indexOfCharUnsafe_4cfef_29 : decode cJ2_indexOfCharUnsafe_4cfef 29 = .ok (.ireturn, 1) := by decide +kernel
set_option maxRecDepth 20000 in
theorem ggJ2_indexOfSupplementary_4cfef_J11_isValidCodePoint_9a6ad : GoodIn wsJ2_indexOfSupplementary_4cfef wsJ11_isValidCodePoint_9a6ad := goodIn_r _ [4] (by decide +kernel) (by decide +kernel)
set_option maxRecDepth 20000 in
theorem gJ2_indexOfSupplementary_4cfef_J11_isValidCodePoint_9a6ad : GoodIn wsJ2_indexOfSupplementary_4cfef (va_wsS RJ2 164 yJ11_isValidCodePoint_9a6ad wsJ11_isValidCodePoint_9a6ad) := goodIn_app (goodIn_of _ (by decide +kernel)) ggJ2_indexOfSupplementary_4cfef_J11_isValidCodePoint_9a6ad
set_option maxRecDepth 20000 in
theorem ggJ2_indexOfSupplementary_4cfef_J11_highSurrogate_5068e : GoodIn wsJ2_indexOfSupplementary_4cfef wsJ11_highSurrogate_5068e := goodIn_r _ [7, 8] (by decide +kernel) (by decide +kernel)
set_option maxRecDepth 20000 in
theorem gJ2_indexOfSupplementary_4cfef_J11_highSurrogate_5068e : GoodIn wsJ2_indexOfSupplementary_4cfef (va_wsS RJ2 157 yJ11_highSurrogate_5068e wsJ11_highSurrogate_5068e) := goodIn_app (goodIn_of _ (by decide +kernel)) ggJ2_indexOfSupplementary_4cfef_J11_highSurrogate_5068e
set_option maxRecDepth 20000 in
theorem ggJ2_indexOfSupplementary_4cfef_J11_lowSurrogate_5068e : GoodIn wsJ2_indexOfSupplementary_4cfef wsJ11_lowSurrogate_5068e := goodIn_r _ [11, 12] (by decide +kernel) (by decide +kernel)
set_option maxRecDepth 20000 in
theorem gJ2_indexOfSupplementary_4cfef_J11_lowSurrogate_5068e : GoodIn wsJ2_indexOfSupplementary_4cfef (va_wsS RJ2 161 yJ11_lowSurrogate_5068e wsJ11_lowSurrogate_5068e) := goodIn_app (goodIn_of _ (by decide +kernel)) ggJ2_indexOfSupplementary_4cfef_J11_lowSurrogate_5068e
set_option maxRecDepth 20000 in
theorem ggJ2_indexOfSupplementary_4cfef_J2_checkBoundsBeginEnd_d044e : GoodIn wsJ2_indexOfSupplementary_4cfef wsJ2_checkBoundsBeginEnd_d044e := goodIn_r _ [16, 17, 18, 15, 19, 20, 21, 22, 23, 24, 25, 26, 27, 28] (by decide +kernel) (by decide +kernel)
set_option maxRecDepth 20000 in
theorem gJ2_indexOfSupplementary_4cfef_J2_checkBoundsBeginEnd_d044e : GoodIn wsJ2_indexOfSupplementary_4cfef (va_wsS RJ2 96 yJ2_checkBoundsBeginEnd_d044e wsJ2_checkBoundsBeginEnd_d044e) := goodIn_app (goodIn_of _ (by decide +kernel)) ggJ2_indexOfSupplementary_4cfef_J2_checkBoundsBeginEnd_d044e
set_option maxRecDepth 20000 in
theorem ggJ2_indexOfSupplementary_4cfef_J2_getChar_3b067 : GoodIn wsJ2_indexOfSupplementary_4cfef wsJ2_getChar_3b067 := goodIn_r _ [31, 32, 33, 34, 17, 18, 15, 19] (by decide +kernel) (by decide +kernel)
set_option maxRecDepth 20000 in
theorem gJ2_indexOfSupplementary_4cfef_J2_getChar_3b067 : GoodIn wsJ2_indexOfSupplementary_4cfef (va_wsS RJ2 71 yJ2_getChar_3b067 wsJ2_getChar_3b067) := goodIn_app (goodIn_of _ (by decide +kernel)) ggJ2_indexOfSupplementary_4cfef_J2_getChar_3b067
theorem dJ2_indexOfSupplementary_4cfef_0 : decode cJ2_indexOfSupplementary_4cfef 0 = .ok (.iload_n 1, 1) := by decide +kernel
theorem dJ2_indexOfSupplementary_4cfef_1 : decode cJ2_indexOfSupplementary_4cfef 1 = .ok (.invokestatic 164, 3) := by decide +kernel
theorem dJ2_indexOfSupplementary_4cfef_4 : decode cJ2_indexOfSupplementary_4cfef 4 = .ok (.ifCond .eq 65, 3) := by decide +kernel
theorem dJ2_indexOfSupplementary_4cfef_7 : decode cJ2_indexOfSupplementary_4cfef 7 = .ok (.iload_n 1, 1) := by decide +kernel
theorem dJ2_indexOfSupplementary_4cfef_8 : decode cJ2_indexOfSupplementary_4cfef 8 = .ok (.invokestatic 157, 3) := by decide +kernel
theorem dJ2_indexOfSupplementary_4cfef_11 : decode cJ2_indexOfSupplementary_4cfef 11 = .ok (.istore 4, 2) := by decide +kernel
theorem dJ2_indexOfSupplementary_4cfef_13 : decode cJ2_indexOfSupplementary_4cfef 13 = .ok (.iload_n 1, 1) := by decide +kernel
theorem dJ2_indexOfSupplementary_4cfef_14 : decode cJ2_indexOfSupplementary_4cfef 14 = .ok (.invokestatic 161, 3) := by decide +kernel
theorem dJ2_indexOfSupplementary_4cfef_17 : decode cJ2_indexOfSupplementary_4cfef 17 = .ok (.istore 5, 2) := by decide +kernel
theorem dJ2_indexOfSupplementary_4cfef_19 : decode cJ2_indexOfSupplementary_4cfef 19 = .ok (.iload_n 2, 1) := by decide +kernel
theorem dJ2_indexOfSupplementary_4cfef_20 : decode cJ2_indexOfSupplementary_4cfef 20 = .ok (.iload_n 3, 1) := by decide +kernel
theorem dJ2_indexOfSupplementary_4cfef_21 : decode cJ2_indexOfSupplementary_4cfef 21 = .ok (.aload_n 0, 1) := by decide +kernel
theorem dJ2_indexOfSupplementary_4cfef_22 : decode cJ2_indexOfSupplementary_4cfef 22 = .ok (.invokestatic 96, 3) := by decide +kernel
theorem dJ2_indexOfSupplementary_4cfef_25 : decode cJ2_indexOfSupplementary_4cfef 25 = .ok (.iload_n 2, 1) := by decide +kernel
theorem dJ2_indexOfSupplementary_4cfef_26 : decode cJ2_indexOfSupplementary_4cfef 26 = .ok (.istore 6, 2) := by decide +kernel
theorem dJ2_indexOfSupplementary_4cfef_28 : decode cJ2_indexOfSupplementary_4cfef 28 = .ok (.iload 6, 2) := by decide +kernel
theorem dJ2_indexOfSupplementary_4cfef_30 : decode cJ2_indexOfSupplementary_4cfef 30 = .ok (.iload_n 3, 1) := by decide +kernel
theorem dJ2_indexOfSupplementary_4cfef_31 : decode cJ2_indexOfSupplementary_4cfef 31 = .ok (.iconst 1, 1) := by decide +kernel
theorem dJ2_indexOfSupplementary_4cfef_32 : decode cJ2_indexOfSupplementary_4cfef 32 = .ok (.isub, 1) := by decide +kernel
theorem dJ2_indexOfSupplementary_4cfef_33 : decode cJ2_indexOfSupplementary_4cfef 33 = .ok (.if_icmp .ge 36, 3) := by decide +kernel
theorem dJ2_indexOfSupplementary_4cfef_36 : decode cJ2_indexOfSupplementary_4cfef 36 = .ok (.aload_n 0, 1) := by decide +kernel
theorem dJ2_indexOfSupplementary_4cfef_37 : decode cJ2_indexOfSupplementary_4cfef 37 = .ok (.iload 6, 2) := by decide +kernel
theorem dJ2_indexOfSupplementary_4cfef_39 : decode cJ2_indexOfSupplementary_4cfef 39 = .ok (.invokestatic 71, 3) := by decide +kernel
theorem dJ2_indexOfSupplementary_4cfef_42 : decode cJ2_indexOfSupplementary_4cfef 42 = .ok (.iload 4, 2) := by decide +kernel
theorem dJ2_indexOfSupplementary_4cfef_44 : decode cJ2_indexOfSupplementary_4cfef 44 = .ok (.if_icmp .ne 19, 3) := by decide +kernel
theorem dJ2_indexOfSupplementary_4cfef_47 : decode cJ2_indexOfSupplementary_4cfef 47 = .ok (.aload_n 0, 1) := by decide +kernel
theorem dJ2_indexOfSupplementary_4cfef_48 : decode cJ2_indexOfSupplementary_4cfef 48 = .ok (.iload 6, 2) := by decide +kernel
theorem dJ2_indexOfSupplementary_4cfef_50 : decode cJ2_indexOfSupplementary_4cfef 50 = .ok (.iconst 1, 1) := by decide +kernel
theorem dJ2_indexOfSupplementary_4cfef_51 : decode cJ2_indexOfSupplementary_4cfef 51 = .ok (.iadd, 1) := by decide +kernel
theorem dJ2_indexOfSupplementary_4cfef_52 : decode cJ2_indexOfSupplementary_4cfef 52 = .ok (.invokestatic 71, 3) := by decide +kernel
theorem dJ2_indexOfSupplementary_4cfef_55 : decode cJ2_indexOfSupplementary_4cfef 55 = .ok (.iload 5, 2) := by decide +kernel
theorem dJ2_indexOfSupplementary_4cfef_57 : decode cJ2_indexOfSupplementary_4cfef 57 = .ok (.if_icmp .ne 6, 3) := by decide +kernel
theorem dJ2_indexOfSupplementary_4cfef_60 : decode cJ2_indexOfSupplementary_4cfef 60 = .ok (.iload 6, 2) := by decide +kernel
theorem dJ2_indexOfSupplementary_4cfef_62 : decode cJ2_indexOfSupplementary_4cfef 62 = .ok (.ireturn, 1) := by decide +kernel
theorem dJ2_indexOfSupplementary_4cfef_63 : decode cJ2_indexOfSupplementary_4cfef 63 = .ok (.iinc 6 1, 3) := by decide +kernel
theorem dJ2_indexOfSupplementary_4cfef_66 : decode cJ2_indexOfSupplementary_4cfef 66 = .ok (.goto (-38), 3) := by decide +kernel
theorem dJ2_indexOfSupplementary_4cfef_69 : decode cJ2_indexOfSupplementary_4cfef 69 = .ok (.iconst (-1), 1) := by decide +kernel
theorem dJ2_indexOfSupplementary_4cfef_70 : decode cJ2_indexOfSupplementary_4cfef 70 = .ok (.ireturn, 1) := by decide +kernel
set_option maxRecDepth 20000 in
theorem ggJ2_checkBoundsBeginEnd_d044e_J2_length_9d52b : GoodIn wsJ2_checkBoundsBeginEnd_d044e wsJ2_length_9d52b := goodIn_r _ [4] (by decide +kernel) (by decide +kernel)
set_option maxRecDepth 20000 in
theorem gJ2_checkBoundsBeginEnd_d044e_J2_length_9d52b : GoodIn wsJ2_checkBoundsBeginEnd_d044e (va_wsS RJ2 48 yJ2_length_9d52b wsJ2_length_9d52b) := goodIn_app (goodIn_of _ (by decide +kernel)) ggJ2_checkBoundsBeginEnd_d044e_J2_length_9d52b
set_option maxRecDepth 20000 in
theorem ggJ2_checkBoundsBeginEnd_d044e_J0_checkBoundsBeginEnd_23922 : GoodIn wsJ2_checkBoundsBeginEnd_d044e wsJ0_checkBoundsBeginEnd_23922 := goodIn_r _ [8, 9, 10, 11, 12, 13] (by decide +kernel) (by decide +kernel)
set_option maxRecDepth 20000 in
theorem gJ2_checkBoundsBeginEnd_d044e_J0_checkBoundsBeginEnd_23922 : GoodIn wsJ2_checkBoundsBeginEnd_d044e (va_wsS RJ2 241 yJ0_checkBoundsBeginEnd_23922 wsJ0_checkBoundsBeginEnd_23922) := goodIn_app (goodIn_of _ (by decide +kernel)) ggJ2_checkBoundsBeginEnd_d044e_J0_checkBoundsBeginEnd_23922
theorem dJ2_checkBoundsBeginEnd_d044e_0 : decode cJ2_checkBoundsBeginEnd_d044e 0 = .ok (.iload_n 0, 1) := by decide +kernel
theorem dJ2_checkBoundsBeginEnd_d044e_1 : decode cJ2_checkBoundsBeginEnd_d044e 1 = .ok (.iload_n 1, 1) := by decide +kernel
theorem dJ2_checkBoundsBeginEnd_d044e_2 : decode cJ2_checkBoundsBeginEnd_d044e 2 = .ok (.aload_n 2, 1) := by decide +kernel
theorem dJ2_checkBoundsBeginEnd_d044e_3 : decode cJ2_checkBoundsBeginEnd_d044e 3 = .ok (.invokestatic 48, 3) := by decide +kernel
theorem dJ2_checkBoundsBeginEnd_d044e_6 : decode cJ2_checkBoundsBeginEnd_d044e 6 = .ok (.invokestatic 241, 3) := by decide +kernel
theorem dJ2_checkBoundsBeginEnd_d044e_9 : decode cJ2_checkBoundsBeginEnd_d044e 9 = .ok (.return_, 1) := by decide +kernel
theorem dJ7_fill_d0a16_0 : decode cJ7_fill_d0a16 0 = .ok (.iconst 0, 1) := by decide +kernel
theorem dJ7_fill_d0a16_1 : decode cJ7_fill_d0a16 1 = .ok (.istore_n 3, 1) := by decide +kernel
theorem dJ7_fill_d0a16_2 : decode cJ7_fill_d0a16 2 = .ok (.aload_n 0, 1) := by decide +kernel
theorem dJ7_fill_d0a16_3 : decode cJ7_fill_d0a16 3 = .ok (.arraylength, 1) := by decide +kernel
theorem dJ7_fill_d0a16_4 : decode cJ7_fill_d0a16 4 = .ok (.istore 4, 2) := by decide +kernel
theorem dJ7_fill_d0a16_6 : decode cJ7_fill_d0a16 6 = .ok (.iload_n 3, 1) := by decide +kernel
theorem dJ7_fill_d0a16_7 : decode cJ7_fill_d0a16 7 = .ok (.iload 4, 2) := by decide +kernel
theorem dJ7_fill_d0a16_9 : decode cJ7_fill_d0a16 9 = .ok (.if_icmp .ge 13, 3) := by decide +kernel
theorem dJ7_fill_d0a16_12 : decode cJ7_fill_d0a16 12 = .ok (.aload_n 0, 1) := by decide +kernel
theorem dJ7_fill_d0a16_13 : decode cJ7_fill_d0a16 13 = .ok (.iload_n 3, 1) := by decide +kernel
theorem dJ7_fill_d0a16_14 : decode cJ7_fill_d0a16 14 = .ok (.lload_n 1, 1) := by decide +kernel
theorem dJ7_fill_d0a16_15 : decode cJ7_fill_d0a16 15 = .ok (.lastore, 1) := by decide +kernel
theorem dJ7_fill_d0a16_16 : decode cJ7_fill_d0a16 16 = .ok (.iinc 3 1, 3) := by decide +kernel
theorem dJ7_fill_d0a16_19 : decode cJ7_fill_d0a16 19 = .ok (.goto (-13), 3) := by decide +kernel
theorem dJ7_fill_d0a16_22 : decode cJ7_fill_d0a16 22 = .ok (.return_, 1) := by decide +kernel
theorem dJ7_fill_53178_0 : decode cJ7_fill_53178 0 = .ok (.iconst 0, 1) := by decide +kernel
theorem dJ7_fill_53178_1 : decode cJ7_fill_53178 1 = .ok (.istore_n 2, 1) := by decide +kernel
theorem dJ7_fill_53178_2 : decode cJ7_fill_53178 2 = .ok (.aload_n 0, 1) := by decide +kernel
theorem dJ7_fill_53178_3 : decode cJ7_fill_53178 3 = .ok (.arraylength, 1) := by decide +kernel
theorem dJ7_fill_53178_4 : decode cJ7_fill_53178 4 = .ok (.istore_n 3, 1) := by decide +kernel
theorem dJ7_fill_53178_5 : decode cJ7_fill_53178 5 = .ok (.iload_n 2, 1) := by decide +kernel
theorem dJ7_fill_53178_6 : decode cJ7_fill_53178 6 = .ok (.iload_n 3, 1) := by decide +kernel
theorem dJ7_fill_53178_7 : decode cJ7_fill_53178 7 = .ok (.if_icmp .ge 13, 3) := by decide +kernel
theorem dJ7_fill_53178_10 : decode cJ7_fill_53178 10 = .ok (.aload_n 0, 1) := by decide +kernel
theorem dJ7_fill_53178_11 : decode cJ7_fill_53178 11 = .ok (.iload_n 2, 1) := by decide +kernel
theorem dJ7_fill_53178_12 : decode cJ7_fill_53178 12 = .ok (.iload_n 1, 1) := by decide +kernel
theorem dJ7_fill_53178_13 : decode cJ7_fill_53178 13 = .ok (.iastore, 1) := by decide +kernel
theorem dJ7_fill_53178_14 : decode cJ7_fill_53178 14 = .ok (.iinc 2 1, 3) := by decide +kernel
theorem dJ7_fill_53178_17 : decode cJ7_fill_53178 17 = .ok (.goto (-12), 3) := by decide +kernel
theorem dJ7_fill_53178_20 : decode cJ7_fill_53178 20 = .ok (.return_, 1) := by decide +kernel
theorem dJ3_checkFromToIndex_8c36e_0 : decode cJ3_checkFromToIndex_8c36e 0 = .ok (.iload_n 0, 1) := by decide +kernel
theorem dJ3_checkFromToIndex_8c36e_1 : decode cJ3_checkFromToIndex_8c36e 1 = .ok (.ifCond .lt 13, 3) := by decide +kernel
theorem dJ3_checkFromToIndex_8c36e_4 : decode cJ3_checkFromToIndex_8c36e 4 = .ok (.iload_n 0, 1) := by decide +kernel
theorem dJ3_checkFromToIndex_8c36e_5 : decode cJ3_checkFromToIndex_8c36e 5 = .ok (.iload_n 1, 1) := by decide +kernel
theorem dJ3_checkFromToIndex_8c36e_6 : decode cJ3_checkFromToIndex_8c36e 6 = .ok (.if_icmp .gt 8, 3) := by decide +kernel
theorem dJ3_checkFromToIndex_8c36e_9 : decode cJ3_checkFromToIndex_8c36e 9 = .ok (.iload_n 1, 1) := by decide +kernel
theorem dJ3_checkFromToIndex_8c36e_10 : decode cJ3_checkFromToIndex_8c36e 10 = .ok (.iload_n 2, 1) := by decide +kernel
theorem dJ3_checkFromToIndex_8c36e_11 : decode cJ3_checkFromToIndex_8c36e 11 = .ok (.if_icmp .le 11, 3) := by decide +kernel
theorem dJ3_checkFromToIndex_8c36e_14 : decode cJ3_checkFromToIndex_8c36e 14 = .ok (.aload_n 3, 1) := by decide +kernel
theorem dJ3_checkFromToIndex_8c36e_15 : decode cJ3_checkFromToIndex_8c36e 15 = .ok (.iload_n 0, 1) := by decide +kernel
theorem dJ3_checkFromToIndex_8c36e_16 : decode cJ3_checkFromToIndex_8c36e 16 = .ok (.iload_n 1, 1) := by decide +kernel
theorem dJ3_checkFromToIndex_8c36e_17 : decode cJ3_checkFromToIndex_8c36e 17 = .ok (.iload_n 2, 1) := by decide +kernel
theorem dJ3_checkFromToIndex_8c36e_18 : decode cJ3_checkFromToIndex_8c36e 18 = .ok (.invokestatic 99, 3) := by decide +kernel
theorem dJ3_checkFromToIndex_8c36e_21 : decode cJ3_checkFromToIndex_8c36e 21 = .ok (.athrow, 1) := by decide +kernel
theorem dJ3_checkFromToIndex_8c36e_22 : decode cJ3_checkFromToIndex_8c36e 22 = .ok (.iload_n 0, 1) := by decide +kernel
theorem dJ3_checkFromToIndex_8c36e_23 : decode cJ3_checkFromToIndex_8c36e 23 = .ok (.ireturn, 1) := by decide +kernel
set_option maxRecDepth 20000 in
theorem ggL_law_X5_init : GoodIn wsL_law wsX5_init := goodIn_r _ [8, 9, 10, 11, 12, 13, 14, 15, 16, 17, 18, 19, 20, 21, 22, 23, 24, 25, 26, 27, 28, 29, 30, 31, 32, 33, 34, 35, 36, 37, 38, 39, 40, 41, 42, 43, 44, 45, 46, 47, 48, 49, 50, 51, 52, 53, 54, 55, 56, 57, 58, 59, 60, 61, 62, 63, 64, 65, 66, 67, 68, 69, 70, 71, 72, 73, 74, 772, 773, 747, 748, 749, 750, 751, 752, 774, 775, 776, 777, 778, 779, 780, 781, 782, 783, 784, 785, 786, 787, 788, 789, 790] (by decide +kernel) (by decide +kernel)
set_option maxRecDepth 20000 in
theorem gL_law_X5_init : GoodIn wsL_law (wsX5_init) := ggL_law_X5_init
set_option maxRecDepth 20000 in
theorem ggL_law_X6_init : GoodIn wsL_law wsX6_init := goodIn_r _ [77, 78, 10, 11, 36, 79, 80, 81, 82, 83, 84, 85, 86, 87, 88, 70, 89, 90, 91, 753, 754, 755, 756, 757, 758, 759, 760, 761, 762, 763, 764, 765, 766, 767, 768, 769, 770, 771] (by decide +kernel) (by decide +kernel)
set_option maxRecDepth 20000 in
theorem gL_law_X6_init : GoodIn wsL_law (wsX6_init) := ggL_law_X6_init
set_option maxRecDepth 20000 in
theorem ggL_law_X5_write : GoodIn wsL_law wsX5_write := goodIn_r _ [95, 15, 96, 97, 98, 14, 99, 38, 37, 747, 748, 749, 750, 751, 752, 772, 773] (by decide +kernel) (by decide +kernel)
set_option maxRecDepth 20000 in
theorem gL_law_X5_write : GoodIn wsL_law (wsV RL 13 RX5 yX5_write wsX5_write) := goodIn_app (goodIn_of _ (by decide +kernel)) ggL_law_X5_write
set_option maxRecDepth 20000 in
theorem ggL_law_X6_write : GoodIn wsL_law wsX6_write := goodIn_r _ [103, 104, 83, 105, 106, 5, 107, 753, 754, 755, 756, 757, 758, 759, 760, 761, 762, 763, 764, 765, 766, 767, 768, 769, 770, 771] (by decide +kernel) (by decide +kernel)
set_option maxRecDepth 20000 in
theorem gL_law_X6_write : GoodIn wsL_law (wsV RL 17 RX6 yX6_write wsX6_write) := goodIn_app (goodIn_of _ (by decide +kernel)) ggL_law_X6_write
set_option maxRecDepth 20000 in
theorem ggL_law_X5_wipe : GoodIn wsL_law wsX5_wipe := goodIn_r _ [111, 15, 112, 113, 114, 14, 115, 38, 747, 748, 749, 750, 751, 752, 772, 773] (by decide +kernel) (by decide +kernel)
set_option maxRecDepth 20000 in
theorem gL_law_X5_wipe : GoodIn wsL_law (wsV RL 18 RX5 yX5_wipe wsX5_wipe) := goodIn_app (goodIn_of _ (by decide +kernel)) ggL_law_X5_wipe
set_option maxRecDepth 20000 in
theorem ggL_law_X6_wipe : GoodIn wsL_law wsX6_wipe := goodIn_r _ [119, 104, 753, 754, 755, 756, 757, 758, 759, 760, 761, 762, 763, 764, 765, 766, 767, 768, 769, 770, 771] (by decide +kernel) (by decide +kernel)
set_option maxRecDepth 20000 in
theorem gL_law_X6_wipe : GoodIn wsL_law (wsV RL 22 RX6 yX6_wipe wsX6_wipe) := goodIn_app (goodIn_of _ (by decide +kernel)) ggL_law_X6_wipe
set_option maxRecDepth 20000 in
theorem ggL_law_X5_fault : GoodIn wsL_law wsX5_fault := goodIn_r _ [123, 15, 20, 124, 125, 126, 14, 127, 38, 128, 129, 130, 18, 131, 44, 45, 132, 133, 134, 135, 136, 137, 138, 139, 37, 140, 141, 142, 143, 144, 145, 146, 147, 148, 149, 150, 151, 43, 152, 153, 154, 155, 156, 157, 158, 159, 160, 161, 162, 163, 164, 165, 166, 167, 168, 169, 170, 171, 172, 173, 174, 175, 176, 177, 178, 179, 180, 181, 182, 183, 184, 185, 186, 187, 188, 189, 190, 191, 192, 193, 194, 195, 196, 197, 198, 199, 200, 201, 202, 203, 204, 205, 206, 207, 208, 209, 210, 211, 212, 213, 214, 215, 216, 217, 218, 219, 220, 221, 222, 223, 224, 225, 226, 227, 228, 229, 230, 231, 232, 233, 234, 235, 236, 237, 238, 239, 240, 241, 242, 243, 244, 245, 246, 247, 248, 249, 250, 251, 252, 253, 254, 255, 256, 257, 258, 747, 748, 749, 750, 751, 752, 772, 773, 774, 775, 776] (by decide +kernel) (by decide +kernel)
set_option maxRecDepth 20000 in
theorem gL_law_X5_fault : GoodIn wsL_law (wsV RL 23 RX5 yX5_fault wsX5_fault) := goodIn_app (goodIn_of _ (by decide +kernel)) ggL_law_X5_fault
set_option maxRecDepth 20000 in
theorem ggL_law_X6_fault : GoodIn wsL_law wsX6_fault := goodIn_r _ [262, 263, 264, 265, 5, 266, 80, 267, 104, 268, 269, 270, 271, 83, 272, 273, 274, 275, 276, 277, 278, 279, 280, 281, 282, 283, 105, 106, 107, 284, 285, 286, 287, 288, 289, 753, 754, 755, 756, 757, 758, 759, 760, 761, 762, 763, 764, 765, 766, 767, 768, 769, 770, 771] (by decide +kernel) (by decide +kernel)
set_option maxRecDepth 20000 in
theorem gL_law_X6_fault : GoodIn wsL_law (wsV RL 26 RX6 yX6_fault wsX6_fault) := goodIn_app (goodIn_of _ (by decide +kernel)) ggL_law_X6_fault
set_option maxRecDepth 20000 in
theorem ggL_law_X5_lay : GoodIn wsL_law wsX5_lay := goodIn_r _ [293, 15, 20, 19, 24, 124, 125, 126, 14, 127, 38, 128, 129, 130, 18, 131, 44, 45, 132, 133, 134, 135, 136, 137, 138, 139, 37, 140, 141, 142, 143, 144, 145, 146, 147, 148, 149, 150, 151, 43, 152, 153, 154, 155, 156, 157, 158, 159, 160, 161, 162, 163, 164, 165, 166, 167, 168, 169, 170, 171, 172, 173, 174, 175, 176, 177, 178, 179, 180, 181, 182, 183, 184, 185, 186, 187, 188, 189, 190, 191, 192, 193, 194, 195, 196, 197, 198, 199, 200, 201, 202, 203, 204, 205, 206, 207, 208, 209, 210, 211, 212, 213, 214, 215, 216, 217, 218, 219, 220, 221, 222, 223, 224, 225, 226, 227, 228, 229, 230, 231, 232, 233, 234, 235, 236, 237, 238, 239, 240, 241, 242, 243, 244, 245, 246, 247, 248, 249, 250, 251, 252, 253, 254, 255, 256, 257, 258, 294, 295, 296, 297, 46, 47, 48, 49, 298, 299, 300, 23, 301, 54, 302, 747, 748, 749, 750, 751, 752, 774, 775, 776, 772, 773, 777, 778] (by decide +kernel) (by decide +kernel)
set_option maxRecDepth 20000 in
theorem gL_law_X5_lay : GoodIn wsL_law (wsV RL 27 RX5 yX5_lay wsX5_lay) := goodIn_app (goodIn_of _ (by decide +kernel)) ggL_law_X5_lay
set_option maxRecDepth 20000 in
theorem ggL_law_X6_lay : GoodIn wsL_law wsX6_lay := goodIn_r _ [306, 80, 79, 307, 263, 264, 265, 5, 266, 267, 104, 268, 269, 270, 271, 83, 272, 273, 274, 275, 276, 277, 278, 279, 280, 281, 282, 283, 105, 106, 107, 284, 285, 286, 287, 288, 289, 308, 309, 310, 753, 754, 755, 756, 757, 758, 759, 760, 761, 762, 763, 764, 765, 766, 767, 768, 769, 770, 771] (by decide +kernel) (by decide +kernel)
set_option maxRecDepth 20000 in
theorem gL_law_X6_lay : GoodIn wsL_law (wsV RL 30 RX6 yX6_lay wsX6_lay) := goodIn_app (goodIn_of _ (by decide +kernel)) ggL_law_X6_lay
set_option maxRecDepth 20000 in
theorem ggL_law_X5_put : GoodIn wsL_law wsX5_put := goodIn_r _ [314, 19, 20, 315, 256, 257, 18, 258, 43, 152, 153, 154, 155, 44, 45, 316, 317, 318, 2, 319, 294, 295, 296, 297, 46, 47, 48, 49, 320, 149, 150, 151, 321, 248, 249, 250, 251, 252, 253, 254, 255, 322, 323, 324, 325, 24, 326, 327, 328, 23, 329, 330, 331, 332, 333, 54, 53, 334, 747, 748, 749, 750, 751, 752, 774, 775, 776, 777, 778] (by decide +kernel) (by decide +kernel)
set_option maxRecDepth 20000 in
theorem gL_law_X5_put : GoodIn wsL_law (wsV RL 31 RX5 yX5_put wsX5_put) := goodIn_app (goodIn_of _ (by decide +kernel)) ggL_law_X5_put
set_option maxRecDepth 20000 in
theorem ggL_law_X6_put : GoodIn wsL_law wsX6_put := goodIn_r _ [338, 79, 339, 340, 341, 5, 342, 278, 279, 280, 105, 106, 107, 281, 282, 283, 275, 276, 277, 287, 288, 289, 284, 285, 286, 343, 344, 345, 346, 307, 82, 308, 309, 310, 753, 754, 755, 756, 757, 758, 759, 760, 761, 762, 763, 764, 765, 766, 767, 768, 769, 770, 771] (by decide +kernel) (by decide +kernel)
set_option maxRecDepth 20000 in
theorem gL_law_X6_put : GoodIn wsL_law (wsV RL 35 RX6 yX6_put wsX6_put) := goodIn_app (goodIn_of _ (by decide +kernel)) ggL_law_X6_put
set_option maxRecDepth 20000 in
theorem ggL_law_X5_door : GoodIn wsL_law wsX5_door := goodIn_r _ [350, 19, 351, 352, 353, 18, 354, 152, 153, 154, 155, 44, 45, 255, 256, 257, 258, 43, 355, 356, 2, 357, 315, 322, 323, 324, 325, 24, 326, 327, 328, 23, 329, 330, 331, 332, 333, 54, 53, 334, 47, 48, 49, 320, 149, 150, 151, 358, 252, 253, 254, 747, 748, 749, 750, 751, 752, 774, 775, 776, 777, 778] (by decide +kernel) (by decide +kernel)
set_option maxRecDepth 20000 in
theorem gL_law_X5_door : GoodIn wsL_law (wsV RL 36 RX5 yX5_door wsX5_door) := goodIn_app (goodIn_of _ (by decide +kernel)) ggL_law_X5_door
set_option maxRecDepth 20000 in
theorem ggL_law_X6_door : GoodIn wsL_law wsX6_door := goodIn_r _ [362, 79, 363, 364, 365, 5, 366, 284, 285, 286, 278, 279, 280, 287, 288, 289, 105, 106, 107, 367, 368, 369, 343, 344, 345, 346, 307, 82, 308, 309, 310, 370, 371, 372, 753, 754, 755, 756, 757, 758, 759, 760, 761, 762, 763, 764, 765, 766, 767, 768, 769, 770, 771] (by decide +kernel) (by decide +kernel)
set_option maxRecDepth 20000 in
theorem gL_law_X6_door : GoodIn wsL_law (wsV RL 39 RX6 yX6_door wsX6_door) := goodIn_app (goodIn_of _ (by decide +kernel)) ggL_law_X6_door
set_option maxRecDepth 20000 in
theorem ggL_law_X5_turn : GoodIn wsL_law wsX5_turn := goodIn_r _ [376, 19, 24, 377, 378, 379, 2, 380, 20, 381, 382, 383, 18, 384, 45, 44, 255, 256, 257, 258, 43, 152, 153, 154, 155, 385, 386, 387, 148, 149, 150, 151, 294, 295, 296, 297, 46, 47, 48, 49, 388, 389, 390, 23, 391, 330, 331, 332, 333, 54, 53, 334, 747, 748, 749, 750, 751, 752, 774, 775, 776, 777, 778] (by decide +kernel) (by decide +kernel)
set_option maxRecDepth 20000 in
theorem gL_law_X5_turn : GoodIn wsL_law (wsV RL 40 RX5 yX5_turn wsX5_turn) := goodIn_app (goodIn_of _ (by decide +kernel)) ggL_law_X5_turn
set_option maxRecDepth 20000 in
theorem ggL_law_X6_turn : GoodIn wsL_law wsX6_turn := goodIn_r _ [395, 79, 81, 105, 106, 5, 107, 343, 344, 345, 346, 307, 82, 308, 309, 310, 281, 282, 283, 753, 754, 755, 756, 757, 758, 759, 760, 761, 762, 763, 764, 765, 766, 767, 768, 769, 770, 771] (by decide +kernel) (by decide +kernel)
set_option maxRecDepth 20000 in
theorem gL_law_X6_turn : GoodIn wsL_law (wsV RL 43 RX6 yX6_turn wsX6_turn) := goodIn_app (goodIn_of _ (by decide +kernel)) ggL_law_X6_turn
set_option maxRecDepth 20000 in
theorem ggL_law_X5_undo : GoodIn wsL_law wsX5_undo := goodIn_r _ [399, 24, 19, 400, 401, 402, 23, 403, 54, 53, 377, 378, 379, 2, 380, 20, 381, 382, 383, 18, 384, 45, 44, 255, 256, 257, 258, 43, 152, 153, 154, 155, 385, 386, 387, 148, 149, 150, 151, 294, 295, 296, 297, 46, 47, 48, 49, 404, 405, 406, 407, 408, 409, 320, 747, 748, 749, 750, 751, 752, 777, 778, 774, 775, 776] (by decide +kernel) (by decide +kernel)
set_option maxRecDepth 20000 in
theorem gL_law_X5_undo : GoodIn wsL_law (wsV RL 44 RX5 yX5_undo wsX5_undo) := goodIn_app (goodIn_of _ (by decide +kernel)) ggL_law_X5_undo
set_option maxRecDepth 20000 in
theorem ggL_law_X6_undo : GoodIn wsL_law wsX6_undo := goodIn_r _ [413, 307, 82, 79, 308, 309, 5, 310, 753, 754, 755, 756, 757, 758, 759, 760, 761, 762, 763, 764, 765, 766, 767, 768, 769, 770, 771] (by decide +kernel) (by decide +kernel)
set_option maxRecDepth 20000 in
theorem gL_law_X6_undo : GoodIn wsL_law (wsV RL 47 RX6 yX6_undo wsX6_undo) := goodIn_app (goodIn_of _ (by decide +kernel)) ggL_law_X6_undo
set_option maxRecDepth 20000 in
theorem ggL_law_X5_cell : GoodIn wsL_law wsX5_cell := goodIn_r _ [417, 19, 315, 256, 257, 18, 258, 43, 152, 153, 154, 155, 44, 45, 747, 748, 749, 750, 751, 752, 774, 775, 776] (by decide +kernel) (by decide +kernel)
set_option maxRecDepth 20000 in
theorem gL_law_X5_cell : GoodIn wsL_law (wsV RL 48 RX5 yX5_cell wsX5_cell) := goodIn_app (goodIn_of _ (by decide +kernel)) ggL_law_X5_cell
set_option maxRecDepth 20000 in
theorem ggL_law_X6_cell : GoodIn wsL_law wsX6_cell := goodIn_r _ [421, 79, 339, 340, 341, 5, 342, 278, 279, 280, 105, 106, 107, 753, 754, 755, 756, 757, 758, 759, 760, 761, 762, 763, 764, 765, 766, 767, 768, 769, 770, 771] (by decide +kernel) (by decide +kernel)
set_option maxRecDepth 20000 in
theorem gL_law_X6_cell : GoodIn wsL_law (wsV RL 51 RX6 yX6_cell wsX6_cell) := goodIn_app (goodIn_of _ (by decide +kernel)) ggL_law_X6_cell
set_option maxRecDepth 20000 in
theorem ggL_law_X5_doorAt : GoodIn wsL_law wsX5_doorAt := goodIn_r _ [425, 19, 351, 352, 353, 18, 354, 152, 153, 154, 155, 44, 45, 255, 256, 257, 258, 43, 747, 748, 749, 750, 751, 752, 774, 775, 776] (by decide +kernel) (by decide +kernel)
set_option maxRecDepth 20000 in
theorem gL_law_X5_doorAt : GoodIn wsL_law (wsV RL 52 RX5 yX5_doorAt wsX5_doorAt) := goodIn_app (goodIn_of _ (by decide +kernel)) ggL_law_X5_doorAt
set_option maxRecDepth 20000 in
theorem ggL_law_X6_doorAt : GoodIn wsL_law wsX6_doorAt := goodIn_r _ [429, 79, 363, 364, 365, 5, 366, 284, 285, 286, 278, 279, 280, 287, 288, 289, 105, 106, 107, 367, 368, 369, 753, 754, 755, 756, 757, 758, 759, 760, 761, 762, 763, 764, 765, 766, 767, 768, 769, 770, 771] (by decide +kernel) (by decide +kernel)
set_option maxRecDepth 20000 in
theorem gL_law_X6_doorAt : GoodIn wsL_law (wsV RL 55 RX6 yX6_doorAt wsX6_doorAt) := goodIn_app (goodIn_of _ (by decide +kernel)) ggL_law_X6_doorAt
set_option maxRecDepth 20000 in
theorem ggL_law_X5_port : GoodIn wsL_law wsX5_port := goodIn_r _ [433, 19, 434, 435, 436, 18, 437, 438, 439, 440, 441, 44, 45, 355, 356, 2, 357, 442, 443, 444, 445, 446, 447, 448, 449, 450, 747, 748, 749, 750, 751, 752, 774, 775, 776] (by decide +kernel) (by decide +kernel)
set_option maxRecDepth 20000 in
theorem gL_law_X5_port : GoodIn wsL_law (wsV RL 56 RX5 yX5_port wsX5_port) := goodIn_app (goodIn_of _ (by decide +kernel)) ggL_law_X5_port
set_option maxRecDepth 20000 in
theorem ggL_law_X6_port : GoodIn wsL_law wsX6_port := goodIn_r _ [454, 79, 455, 456, 457, 5, 458, 459, 460, 461, 105, 106, 107, 462, 463, 464, 753, 754, 755, 756, 757, 758, 759, 760, 761, 762, 763, 764, 765, 766, 767, 768, 769, 770, 771] (by decide +kernel) (by decide +kernel)
set_option maxRecDepth 20000 in
theorem gL_law_X6_port : GoodIn wsL_law (wsV RL 59 RX6 yX6_port wsX6_port) := goodIn_app (goodIn_of _ (by decide +kernel)) ggL_law_X6_port
set_option maxRecDepth 20000 in
theorem ggL_law_X5_share : GoodIn wsL_law wsX5_share := goodIn_r _ [468, 32, 19, 469, 470, 471, 2, 472, 434, 435, 436, 18, 437, 438, 439, 440, 441, 44, 45, 355, 356, 357, 473, 474, 475, 31, 476, 477, 443, 444, 445, 446, 447, 448, 449, 478, 479, 480, 481, 482, 256, 257, 258, 43, 152, 153, 154, 155, 483, 484, 485, 486, 487, 488, 489, 490, 491, 492, 493, 494, 495, 496, 497, 498, 499, 67, 73, 66, 68, 500, 501, 502, 503, 504, 505, 506, 507, 508, 509, 510, 511, 512, 513, 514, 71, 515, 516, 517, 518, 519, 520, 521, 522, 74, 523, 524, 525, 526, 527, 528, 529, 530, 72, 531, 532, 533, 534, 535, 536, 537, 538, 539, 540, 541, 542, 543, 544, 747, 748, 749, 750, 751, 752, 784, 785, 786, 787, 788, 789, 790, 774, 775, 776] (by decide +kernel) (by decide +kernel)
set_option maxRecDepth 20000 in
theorem gL_law_X5_share : GoodIn wsL_law (wsV RL 60 RX5 yX5_share wsX5_share) := goodIn_app (goodIn_of _ (by decide +kernel)) ggL_law_X5_share
set_option maxRecDepth 20000 in
theorem ggL_law_X6_share : GoodIn wsL_law wsX6_share := goodIn_r _ [548, 79, 549, 550, 455, 456, 457, 5, 458, 459, 460, 461, 105, 106, 107, 551, 552, 553, 554, 87, 462, 463, 464, 555, 556, 557, 558, 559, 560, 281, 282, 283, 561, 562, 563, 564, 565, 566, 567, 568, 569, 570, 571, 572, 573, 574, 575, 576, 577, 84, 85, 578, 579, 580, 581, 88, 582, 583, 584, 585, 89, 586, 587, 588, 589, 590, 591, 592, 593, 594, 753, 754, 755, 756, 757, 758, 759, 760, 761, 762, 763, 764, 765, 766, 767, 768, 769, 770, 771] (by decide +kernel) (by decide +kernel)
set_option maxRecDepth 20000 in
theorem gL_law_X6_share : GoodIn wsL_law (wsV RL 64 RX6 yX6_share wsX6_share) := goodIn_app (goodIn_of _ (by decide +kernel)) ggL_law_X6_share
set_option maxRecDepth 20000 in
theorem ggL_law_X5_lost : GoodIn wsL_law wsX5_lost := goodIn_r _ [598, 19, 32, 434, 435, 436, 18, 437, 438, 439, 440, 441, 44, 45, 355, 356, 2, 357, 473, 474, 475, 31, 476, 477, 443, 444, 445, 446, 447, 448, 449, 478, 479, 480, 481, 482, 256, 257, 258, 43, 152, 153, 154, 155, 483, 484, 485, 486, 487, 488, 489, 490, 491, 492, 493, 494, 495, 496, 497, 498, 499, 67, 73, 66, 68, 500, 501, 502, 503, 504, 505, 506, 507, 508, 509, 510, 511, 512, 513, 514, 71, 515, 516, 517, 518, 519, 520, 521, 522, 74, 523, 524, 525, 526, 527, 528, 529, 530, 72, 531, 532, 533, 534, 599, 600, 601, 602, 603, 604, 605, 606, 607, 608, 536, 537, 538, 539, 540, 541, 542, 543, 544, 747, 748, 749, 750, 751, 752, 784, 785, 786, 787, 788, 789, 790, 774, 775, 776] (by decide +kernel) (by decide +kernel)
set_option maxRecDepth 20000 in
theorem gL_law_X5_lost : GoodIn wsL_law (wsV RL 65 RX5 yX5_lost wsX5_lost) := goodIn_app (goodIn_of _ (by decide +kernel)) ggL_law_X5_lost
set_option maxRecDepth 20000 in
theorem ggL_law_X6_lost : GoodIn wsL_law wsX6_lost := goodIn_r _ [612, 455, 456, 457, 5, 458, 79, 459, 460, 461, 105, 106, 107, 613, 614, 615, 616, 550, 549, 551, 552, 553, 554, 87, 462, 463, 464, 555, 556, 557, 558, 559, 560, 281, 282, 283, 561, 562, 563, 564, 565, 566, 567, 568, 569, 570, 571, 572, 573, 574, 575, 576, 577, 84, 85, 578, 579, 580, 581, 88, 582, 583, 584, 585, 89, 586, 587, 588, 589, 590, 591, 592, 593, 594, 753, 754, 755, 756, 757, 758, 759, 760, 761, 762, 763, 764, 765, 766, 767, 768, 769, 770, 771] (by decide +kernel) (by decide +kernel)
set_option maxRecDepth 20000 in
theorem gL_law_X6_lost : GoodIn wsL_law (wsV RL 68 RX6 yX6_lost wsX6_lost) := goodIn_app (goodIn_of _ (by decide +kernel)) ggL_law_X6_lost
set_option maxRecDepth 20000 in
theorem ggL_law_X5_bits : GoodIn wsL_law wsX5_bits := goodIn_r _ [620, 32, 19, 469, 470, 471, 2, 472, 434, 435, 436, 18, 437, 438, 439, 440, 441, 44, 45, 473, 474, 475, 31, 476, 477, 443, 444, 445, 446, 447, 448, 449, 478, 479, 480, 481, 482, 256, 257, 258, 43, 152, 153, 154, 155, 483, 484, 485, 486, 487, 488, 489, 490, 491, 492, 493, 494, 495, 496, 497, 498, 499, 67, 73, 66, 68, 500, 501, 502, 503, 504, 505, 506, 507, 508, 509, 510, 511, 512, 513, 514, 71, 515, 516, 517, 518, 519, 520, 521, 522, 74, 523, 524, 525, 526, 527, 528, 529, 530, 72, 531, 532, 533, 534, 535, 536, 537, 538, 539, 540, 541, 542, 543, 544, 621, 622, 623, 624, 747, 748, 749, 750, 751, 752, 784, 785, 786, 787, 788, 789, 790, 774, 775, 776] (by decide +kernel) (by decide +kernel)
set_option maxRecDepth 20000 in
theorem gL_law_X5_bits : GoodIn wsL_law (wsV RL 69 RX5 yX5_bits wsX5_bits) := goodIn_app (goodIn_of _ (by decide +kernel)) ggL_law_X5_bits
set_option maxRecDepth 20000 in
theorem ggL_law_X6_bits : GoodIn wsL_law wsX6_bits := goodIn_r _ [628, 79, 549, 550, 455, 456, 457, 5, 458, 459, 460, 461, 105, 106, 107, 551, 552, 553, 554, 87, 462, 463, 464, 555, 556, 557, 558, 559, 560, 281, 282, 283, 561, 562, 563, 564, 565, 566, 567, 568, 569, 570, 571, 572, 573, 574, 575, 576, 577, 84, 85, 578, 579, 580, 581, 88, 582, 583, 584, 585, 89, 586, 587, 588, 589, 590, 591, 592, 593, 594, 629, 630, 631, 632, 633, 634, 635, 636, 637, 638, 639, 640, 753, 754, 755, 756, 757, 758, 759, 760, 761, 762, 763, 764, 765, 766, 767, 768, 769, 770, 771] (by decide +kernel) (by decide +kernel)
set_option maxRecDepth 20000 in
theorem gL_law_X6_bits : GoodIn wsL_law (wsV RL 72 RX6 yX6_bits wsX6_bits) := goodIn_app (goodIn_of _ (by decide +kernel)) ggL_law_X6_bits
set_option maxRecDepth 20000 in
theorem ggL_law_X5_lit : GoodIn wsL_law wsX5_lit := goodIn_r _ [644, 19, 28, 434, 435, 436, 18, 437, 438, 439, 440, 441, 44, 45, 645, 646, 647, 27, 648, 59, 60, 61, 62, 58, 649, 501, 502, 503, 650, 443, 444, 445, 446, 447, 448, 449, 651, 652, 653, 654, 655, 656, 657, 658, 659, 660, 256, 257, 258, 43, 152, 153, 154, 155, 487, 2, 488, 489, 483, 484, 661, 662, 663, 664, 665, 493, 494, 495, 666, 667, 668, 669, 490, 491, 485, 486, 747, 748, 749, 750, 751, 752, 779, 780, 781, 782, 783, 774, 775, 776] (by decide +kernel) (by decide +kernel)
set_option maxRecDepth 20000 in
theorem gL_law_X5_lit : GoodIn wsL_law (wsV RL 73 RX5 yX5_lit wsX5_lit) := goodIn_app (goodIn_of _ (by decide +kernel)) ggL_law_X5_lit
set_option maxRecDepth 20000 in
theorem ggL_law_X6_lit : GoodIn wsL_law wsX6_lit := goodIn_r _ [673, 674, 90, 455, 456, 457, 5, 458, 79, 459, 460, 461, 105, 106, 107, 675, 676, 677, 678, 91, 462, 463, 464, 558, 559, 560, 281, 282, 283, 561, 562, 563, 564, 565, 566, 567, 568, 569, 753, 754, 755, 756, 757, 758, 759, 760, 761, 762, 763, 764, 765, 766, 767, 768, 769, 770, 771] (by decide +kernel) (by decide +kernel)
set_option maxRecDepth 20000 in
theorem gL_law_X6_lit : GoodIn wsL_law (wsV RL 76 RX6 yX6_lit wsX6_lit) := goodIn_app (goodIn_of _ (by decide +kernel)) ggL_law_X6_lit
set_option maxRecDepth 20000 in
theorem ggL_law_X5_far : GoodIn wsL_law wsX5_far := goodIn_r _ [682, 28, 19, 469, 470, 471, 2, 472, 434, 435, 436, 18, 437, 438, 439, 440, 441, 44, 45, 645, 646, 647, 27, 648, 59, 60, 61, 62, 58, 649, 501, 502, 503, 650, 443, 444, 445, 446, 447, 448, 449, 651, 652, 653, 654, 655, 656, 657, 658, 659, 660, 256, 257, 258, 43, 152, 153, 154, 155, 487, 488, 489, 483, 484, 661, 662, 663, 664, 665, 493, 494, 495, 666, 667, 668, 669, 490, 491, 485, 486, 683, 684, 685, 686, 747, 748, 749, 750, 751, 752, 774, 775, 776, 779, 780, 781, 782, 783] (by decide +kernel) (by decide +kernel)
set_option maxRecDepth 20000 in
theorem gL_law_X5_far : GoodIn wsL_law (wsV RL 77 RX5 yX5_far wsX5_far) := goodIn_app (goodIn_of _ (by decide +kernel)) ggL_law_X5_far
set_option maxRecDepth 20000 in
theorem ggL_law_X6_far : GoodIn wsL_law wsX6_far := goodIn_r _ [690, 674, 79, 90, 91, 455, 456, 457, 5, 458, 459, 460, 461, 105, 106, 107, 675, 676, 677, 678, 462, 463, 464, 558, 559, 560, 281, 282, 283, 561, 562, 563, 564, 565, 566, 567, 568, 569, 753, 754, 755, 756, 757, 758, 759, 760, 761, 762, 763, 764, 765, 766, 767, 768, 769, 770, 771] (by decide +kernel) (by decide +kernel)
set_option maxRecDepth 20000 in
theorem gL_law_X6_far : GoodIn wsL_law (wsV RL 80 RX6 yX6_far wsX6_far) := goodIn_app (goodIn_of _ (by decide +kernel)) ggL_law_X6_far
set_option maxRecDepth 20000 in
theorem ggL_law_X5_alike : GoodIn wsL_law wsX5_alike := goodIn_r _ [694, 32, 19, 469, 470, 471, 2, 472, 434, 435, 436, 18, 437, 438, 439, 440, 441, 44, 45, 473, 474, 475, 31, 476, 477, 443, 444, 445, 446, 447, 448, 449, 478, 479, 480, 481, 482, 256, 257, 258, 43, 152, 153, 154, 155, 483, 484, 485, 486, 487, 488, 489, 490, 491, 492, 493, 494, 495, 496, 497, 498, 499, 67, 73, 66, 68, 500, 501, 502, 503, 504, 505, 506, 507, 508, 509, 510, 511, 512, 513, 514, 71, 515, 516, 517, 518, 519, 520, 521, 522, 74, 523, 524, 525, 526, 527, 528, 529, 530, 72, 531, 532, 533, 534, 599, 600, 601, 602, 603, 604, 605, 606, 607, 608, 536, 537, 538, 695, 696, 697, 698, 699, 700, 701, 747, 748, 749, 750, 751, 752, 784, 785, 786, 787, 788, 789, 790, 774, 775, 776] (by decide +kernel) (by decide +kernel)
set_option maxRecDepth 20000 in
theorem gL_law_X5_alike : GoodIn wsL_law (wsV RL 81 RX5 yX5_alike wsX5_alike) := goodIn_app (goodIn_of _ (by decide +kernel)) ggL_law_X5_alike
set_option maxRecDepth 20000 in
theorem ggL_law_X6_alike : GoodIn wsL_law wsX6_alike := goodIn_r _ [705, 455, 456, 457, 5, 458, 79, 459, 460, 461, 105, 106, 107, 613, 614, 615, 616, 550, 549, 551, 552, 553, 554, 87, 462, 463, 464, 555, 556, 557, 558, 559, 560, 281, 282, 283, 561, 562, 563, 564, 565, 566, 567, 568, 569, 570, 571, 572, 573, 574, 575, 576, 577, 84, 85, 578, 579, 580, 581, 88, 582, 583, 584, 585, 89, 586, 587, 588, 589, 590, 591, 592, 593, 594, 753, 754, 755, 756, 757, 758, 759, 760, 761, 762, 763, 764, 765, 766, 767, 768, 769, 770, 771] (by decide +kernel) (by decide +kernel)
set_option maxRecDepth 20000 in
theorem gL_law_X6_alike : GoodIn wsL_law (wsV RL 84 RX6 yX6_alike wsX6_alike) := goodIn_app (goodIn_of _ (by decide +kernel)) ggL_law_X6_alike
set_option maxRecDepth 20000 in
theorem ggL_law_X5_best : GoodIn wsL_law wsX5_best := goodIn_r _ [709, 19, 710, 32, 20, 469, 470, 471, 2, 472, 434, 435, 436, 18, 437, 438, 439, 440, 441, 44, 45, 355, 356, 357, 358, 252, 253, 254, 152, 153, 154, 155, 255, 256, 257, 258, 43, 711, 712, 713, 714, 294, 295, 296, 297, 46, 47, 48, 49, 351, 352, 353, 354, 320, 149, 150, 151, 473, 474, 475, 31, 476, 477, 443, 444, 445, 446, 447, 448, 449, 478, 479, 480, 481, 482, 483, 484, 485, 486, 487, 488, 489, 490, 491, 492, 493, 494, 495, 496, 497, 498, 499, 67, 73, 66, 68, 500, 501, 502, 503, 504, 505, 506, 507, 508, 509, 510, 511, 512, 513, 514, 71, 515, 516, 517, 518, 519, 520, 521, 522, 74, 523, 524, 525, 526, 527, 528, 529, 530, 72, 531, 532, 533, 534, 535, 536, 537, 538, 695, 696, 697, 698, 699, 700, 701, 715, 716, 717, 718, 719, 720, 721, 539, 540, 541, 542, 543, 544, 747, 748, 749, 750, 751, 752, 784, 785, 786, 787, 788, 789, 790, 774, 775, 776] (by decide +kernel) (by decide +kernel)
set_option maxRecDepth 20000 in
theorem gL_law_X5_best : GoodIn wsL_law (wsV RL 85 RX5 yX5_best wsX5_best) := goodIn_app (goodIn_of _ (by decide +kernel)) ggL_law_X5_best
set_option maxRecDepth 20000 in
theorem ggL_law_X6_best : GoodIn wsL_law wsX6_best := goodIn_r _ [725, 726, 79, 81, 549, 550, 455, 456, 457, 5, 458, 459, 460, 461, 105, 106, 107, 284, 285, 286, 278, 279, 280, 287, 288, 289, 308, 309, 310, 367, 368, 369, 551, 552, 553, 554, 87, 462, 463, 464, 555, 556, 557, 558, 559, 560, 281, 282, 283, 561, 562, 563, 564, 565, 566, 567, 568, 569, 570, 571, 572, 573, 574, 575, 576, 577, 84, 85, 578, 579, 580, 581, 88, 582, 583, 584, 585, 89, 586, 587, 588, 589, 590, 591, 592, 593, 594, 727, 728, 729, 753, 754, 755, 756, 757, 758, 759, 760, 761, 762, 763, 764, 765, 766, 767, 768, 769, 770, 771] (by decide +kernel) (by decide +kernel)
set_option maxRecDepth 20000 in
theorem gL_law_X6_best : GoodIn wsL_law (wsV RL 88 RX6 yX6_best wsX6_best) := goodIn_app (goodIn_of _ (by decide +kernel)) ggL_law_X6_best
set_option maxRecDepth 20000 in
theorem ggL_law_X5_found : GoodIn wsL_law wsX5_found := goodIn_r _ [733, 19, 32, 20, 469, 470, 471, 2, 472, 434, 435, 436, 18, 437, 438, 439, 440, 441, 44, 45, 355, 356, 357, 302, 153, 154, 155, 315, 256, 257, 258, 43, 152, 316, 317, 318, 319, 294, 295, 296, 297, 46, 47, 48, 49, 320, 149, 150, 151, 473, 474, 475, 31, 476, 477, 443, 444, 445, 446, 447, 448, 449, 478, 479, 480, 481, 482, 483, 484, 485, 486, 487, 488, 489, 490, 491, 492, 493, 494, 495, 496, 497, 498, 499, 67, 73, 66, 68, 500, 501, 502, 503, 504, 505, 506, 507, 508, 509, 510, 511, 512, 513, 514, 71, 515, 516, 517, 518, 519, 520, 521, 522, 74, 523, 524, 525, 526, 527, 528, 529, 530, 72, 531, 532, 533, 534, 535, 536, 537, 538, 695, 696, 697, 698, 699, 700, 701, 747, 748, 749, 750, 751, 752, 784, 785, 786, 787, 788, 789, 790, 774, 775, 776] (by decide +kernel) (by decide +kernel)
set_option maxRecDepth 20000 in
theorem gL_law_X5_found : GoodIn wsL_law (wsV RL 89 RX5 yX5_found wsX5_found) := goodIn_app (goodIn_of _ (by decide +kernel)) ggL_law_X5_found
set_option maxRecDepth 20000 in
theorem ggL_law_X6_found : GoodIn wsL_law wsX6_found := goodIn_r _ [737, 79, 81, 549, 550, 455, 456, 457, 5, 458, 459, 460, 461, 105, 106, 107, 278, 279, 280, 308, 309, 310, 551, 552, 553, 554, 87, 462, 463, 464, 555, 556, 557, 558, 559, 560, 281, 282, 283, 561, 562, 563, 564, 565, 566, 567, 568, 569, 570, 571, 572, 573, 574, 575, 576, 577, 84, 85, 578, 579, 580, 581, 88, 582, 583, 584, 585, 89, 586, 587, 588, 589, 590, 591, 592, 593, 594, 753, 754, 755, 756, 757, 758, 759, 760, 761, 762, 763, 764, 765, 766, 767, 768, 769, 770, 771] (by decide +kernel) (by decide +kernel)
set_option maxRecDepth 20000 in
theorem gL_law_X6_found : GoodIn wsL_law (wsV RL 93 RX6 yX6_found wsX6_found) := goodIn_app (goodIn_of _ (by decide +kernel)) ggL_law_X6_found
set_option maxRecDepth 20000 in
theorem ggL_law_X5_count : GoodIn wsL_law wsX5_count := goodIn_r _ [741, 19, 24, 15, 358, 252, 253, 18, 254, 152, 153, 154, 155, 44, 45, 255, 256, 257, 258, 43, 742, 439, 440, 441, 747, 748, 749, 750, 751, 752, 774, 775, 776, 777, 778, 772, 773] (by decide +kernel) (by decide +kernel)
set_option maxRecDepth 20000 in
theorem gL_law_X5_count : GoodIn wsL_law (wsV RL 94 RX5 yX5_count wsX5_count) := goodIn_app (goodIn_of _ (by decide +kernel)) ggL_law_X5_count
set_option maxRecDepth 20000 in
theorem ggL_law_X6_count : GoodIn wsL_law wsX6_count := goodIn_r _ [746, 79, 307, 104, 278, 279, 5, 280, 105, 106, 107, 275, 276, 277, 281, 282, 283, 284, 285, 286, 287, 288, 289, 370, 371, 372, 459, 460, 461, 753, 754, 755, 756, 757, 758, 759, 760, 761, 762, 763, 764, 765, 766, 767, 768, 769, 770, 771] (by decide +kernel) (by decide +kernel)
set_option maxRecDepth 20000 in
theorem gL_law_X6_count : GoodIn wsL_law (wsV RL 97 RX6 yX6_count wsX6_count) := goodIn_app (goodIn_of _ (by decide +kernel)) ggL_law_X6_count
theorem dL_law_0 : decode cL_law 0 = .ok (.new 7, 3) := by decide +kernel
theorem dL_law_3 : decode cL_law 3 = .ok (.dup, 1) := by decide +kernel
theorem dL_law_4 : decode cL_law 4 = .ok (.invokespecial 9, 3) := by decide +kernel
theorem dL_law_7 : decode cL_law 7 = .ok (.astore_n 1, 1) := by decide +kernel
theorem dL_law_8 : decode cL_law 8 = .ok (.new 10, 3) := by decide +kernel
theorem dL_law_11 : decode cL_law 11 = .ok (.dup, 1) := by decide +kernel
theorem dL_law_12 : decode cL_law 12 = .ok (.invokespecial 12, 3) := by decide +kernel
theorem dL_law_15 : decode cL_law 15 = .ok (.astore_n 2, 1) := by decide +kernel
theorem dL_law_16 : decode cL_law 16 = .ok (.iconst 0, 1) := by decide +kernel
theorem dL_law_17 : decode cL_law 17 = .ok (.istore_n 3, 1) := by decide +kernel
theorem dL_law_18 : decode cL_law 18 = .ok (.iload_n 3, 1) := by decide +kernel
theorem dL_law_19 : decode cL_law 19 = .ok (.aload_n 0, 1) := by decide +kernel
theorem dL_law_20 : decode cL_law 20 = .ok (.arraylength, 1) := by decide +kernel
theorem dL_law_21 : decode cL_law 21 = .ok (.bipush 6, 2) := by decide +kernel
theorem dL_law_23 : decode cL_law 23 = .ok (.isub, 1) := by decide +kernel
theorem dL_law_24 : decode cL_law 24 = .ok (.if_icmp .gt 670, 3) := by decide +kernel
theorem dL_law_27 : decode cL_law 27 = .ok (.aload_n 0, 1) := by decide +kernel
theorem dL_law_28 : decode cL_law 28 = .ok (.iload_n 3, 1) := by decide +kernel
theorem dL_law_29 : decode cL_law 29 = .ok (.iaload, 1) := by decide +kernel
theorem dL_law_30 : decode cL_law 30 = .ok (.bipush 31, 2) := by decide +kernel
theorem dL_law_32 : decode cL_law 32 = .ok (.iand, 1) := by decide +kernel
theorem dL_law_33 : decode cL_law 33 = .ok (.tableswitch 655 0 19 #[95, 118, 131, 144, 157, 190, 223, 236, 249, 272, 295, 328, 371, 404, 437, 460, 493, 526, 569, 632], 95) := by decide +kernel
theorem dL_law_128 : decode cL_law 128 = .ok (.aload_n 1, 1) := by decide +kernel
theorem dL_law_129 : decode cL_law 129 = .ok (.aload_n 0, 1) := by decide +kernel
theorem dL_law_130 : decode cL_law 130 = .ok (.iload_n 3, 1) := by decide +kernel
theorem dL_law_131 : decode cL_law 131 = .ok (.iconst 1, 1) := by decide +kernel
theorem dL_law_132 : decode cL_law 132 = .ok (.iadd, 1) := by decide +kernel
theorem dL_law_133 : decode cL_law 133 = .ok (.iaload, 1) := by decide +kernel
theorem dL_law_134 : decode cL_law 134 = .ok (.invokevirtual 13, 3) := by decide +kernel
theorem dL_law_137 : decode cL_law 137 = .ok (.aload_n 2, 1) := by decide +kernel
theorem dL_law_138 : decode cL_law 138 = .ok (.aload_n 0, 1) := by decide +kernel
theorem dL_law_139 : decode cL_law 139 = .ok (.iload_n 3, 1) := by decide +kernel
theorem dL_law_140 : decode cL_law 140 = .ok (.iconst 1, 1) := by decide +kernel
theorem dL_law_141 : decode cL_law 141 = .ok (.iadd, 1) := by decide +kernel
theorem dL_law_142 : decode cL_law 142 = .ok (.iaload, 1) := by decide +kernel
theorem dL_law_143 : decode cL_law 143 = .ok (.invokevirtual 17, 3) := by decide +kernel
theorem dL_law_146 : decode cL_law 146 = .ok (.if_icmp .eq 542, 3) := by decide +kernel
theorem dL_law_149 : decode cL_law 149 = .ok (.iconst 0, 1) := by decide +kernel
theorem dL_law_150 : decode cL_law 150 = .ok (.ireturn, 1) := by decide +kernel
theorem dL_law_151 : decode cL_law 151 = .ok (.aload_n 1, 1) := by decide +kernel
theorem dL_law_152 : decode cL_law 152 = .ok (.invokevirtual 18, 3) := by decide +kernel
theorem dL_law_155 : decode cL_law 155 = .ok (.aload_n 2, 1) := by decide +kernel
theorem dL_law_156 : decode cL_law 156 = .ok (.invokevirtual 22, 3) := by decide +kernel
theorem dL_law_159 : decode cL_law 159 = .ok (.if_icmp .eq 529, 3) := by decide +kernel
theorem dL_law_162 : decode cL_law 162 = .ok (.iconst 0, 1) := by decide +kernel
theorem dL_law_163 : decode cL_law 163 = .ok (.ireturn, 1) := by decide +kernel
theorem dL_law_164 : decode cL_law 164 = .ok (.aload_n 1, 1) := by decide +kernel
theorem dL_law_165 : decode cL_law 165 = .ok (.invokevirtual 23, 3) := by decide +kernel
theorem dL_law_168 : decode cL_law 168 = .ok (.aload_n 2, 1) := by decide +kernel
theorem dL_law_169 : decode cL_law 169 = .ok (.invokevirtual 26, 3) := by decide +kernel
theorem dL_law_172 : decode cL_law 172 = .ok (.if_icmp .eq 516, 3) := by decide +kernel
theorem dL_law_175 : decode cL_law 175 = .ok (.iconst 0, 1) := by decide +kernel
theorem dL_law_176 : decode cL_law 176 = .ok (.ireturn, 1) := by decide +kernel
theorem dL_law_177 : decode cL_law 177 = .ok (.aload_n 1, 1) := by decide +kernel
theorem dL_law_178 : decode cL_law 178 = .ok (.invokevirtual 27, 3) := by decide +kernel
theorem dL_law_181 : decode cL_law 181 = .ok (.aload_n 2, 1) := by decide +kernel
theorem dL_law_182 : decode cL_law 182 = .ok (.invokevirtual 30, 3) := by decide +kernel
theorem dL_law_185 : decode cL_law 185 = .ok (.if_icmp .eq 503, 3) := by decide +kernel
theorem dL_law_188 : decode cL_law 188 = .ok (.iconst 0, 1) := by decide +kernel
theorem dL_law_189 : decode cL_law 189 = .ok (.ireturn, 1) := by decide +kernel
theorem dL_law_190 : decode cL_law 190 = .ok (.aload_n 1, 1) := by decide +kernel
theorem dL_law_191 : decode cL_law 191 = .ok (.aload_n 0, 1) := by decide +kernel
theorem dL_law_192 : decode cL_law 192 = .ok (.iload_n 3, 1) := by decide +kernel
theorem dL_law_193 : decode cL_law 193 = .ok (.iconst 1, 1) := by decide +kernel
theorem dL_law_194 : decode cL_law 194 = .ok (.iadd, 1) := by decide +kernel
theorem dL_law_195 : decode cL_law 195 = .ok (.iaload, 1) := by decide +kernel
theorem dL_law_196 : decode cL_law 196 = .ok (.aload_n 0, 1) := by decide +kernel
theorem dL_law_197 : decode cL_law 197 = .ok (.iload_n 3, 1) := by decide +kernel
theorem dL_law_198 : decode cL_law 198 = .ok (.iconst 2, 1) := by decide +kernel
theorem dL_law_199 : decode cL_law 199 = .ok (.iadd, 1) := by decide +kernel
theorem dL_law_200 : decode cL_law 200 = .ok (.iaload, 1) := by decide +kernel
theorem dL_law_201 : decode cL_law 201 = .ok (.invokevirtual 31, 3) := by decide +kernel
theorem dL_law_204 : decode cL_law 204 = .ok (.aload_n 2, 1) := by decide +kernel
theorem dL_law_205 : decode cL_law 205 = .ok (.aload_n 0, 1) := by decide +kernel
theorem dL_law_206 : decode cL_law 206 = .ok (.iload_n 3, 1) := by decide +kernel
theorem dL_law_207 : decode cL_law 207 = .ok (.iconst 1, 1) := by decide +kernel
theorem dL_law_208 : decode cL_law 208 = .ok (.iadd, 1) := by decide +kernel
theorem dL_law_209 : decode cL_law 209 = .ok (.iaload, 1) := by decide +kernel
theorem dL_law_210 : decode cL_law 210 = .ok (.aload_n 0, 1) := by decide +kernel
theorem dL_law_211 : decode cL_law 211 = .ok (.iload_n 3, 1) := by decide +kernel
theorem dL_law_212 : decode cL_law 212 = .ok (.iconst 2, 1) := by decide +kernel
theorem dL_law_213 : decode cL_law 213 = .ok (.iadd, 1) := by decide +kernel
theorem dL_law_214 : decode cL_law 214 = .ok (.iaload, 1) := by decide +kernel
theorem dL_law_215 : decode cL_law 215 = .ok (.invokevirtual 35, 3) := by decide +kernel
theorem dL_law_218 : decode cL_law 218 = .ok (.if_icmp .eq 470, 3) := by decide +kernel
theorem dL_law_221 : decode cL_law 221 = .ok (.iconst 0, 1) := by decide +kernel
theorem dL_law_222 : decode cL_law 222 = .ok (.ireturn, 1) := by decide +kernel
theorem dL_law_223 : decode cL_law 223 = .ok (.aload_n 1, 1) := by decide +kernel
theorem dL_law_224 : decode cL_law 224 = .ok (.aload_n 0, 1) := by decide +kernel
theorem dL_law_225 : decode cL_law 225 = .ok (.iload_n 3, 1) := by decide +kernel
theorem dL_law_226 : decode cL_law 226 = .ok (.iconst 1, 1) := by decide +kernel
theorem dL_law_227 : decode cL_law 227 = .ok (.iadd, 1) := by decide +kernel
theorem dL_law_228 : decode cL_law 228 = .ok (.iaload, 1) := by decide +kernel
theorem dL_law_229 : decode cL_law 229 = .ok (.aload_n 0, 1) := by decide +kernel
theorem dL_law_230 : decode cL_law 230 = .ok (.iload_n 3, 1) := by decide +kernel
theorem dL_law_231 : decode cL_law 231 = .ok (.iconst 2, 1) := by decide +kernel
theorem dL_law_232 : decode cL_law 232 = .ok (.iadd, 1) := by decide +kernel
theorem dL_law_233 : decode cL_law 233 = .ok (.iaload, 1) := by decide +kernel
theorem dL_law_234 : decode cL_law 234 = .ok (.invokevirtual 36, 3) := by decide +kernel
theorem dL_law_237 : decode cL_law 237 = .ok (.aload_n 2, 1) := by decide +kernel
theorem dL_law_238 : decode cL_law 238 = .ok (.aload_n 0, 1) := by decide +kernel
theorem dL_law_239 : decode cL_law 239 = .ok (.iload_n 3, 1) := by decide +kernel
theorem dL_law_240 : decode cL_law 240 = .ok (.iconst 1, 1) := by decide +kernel
theorem dL_law_241 : decode cL_law 241 = .ok (.iadd, 1) := by decide +kernel
theorem dL_law_242 : decode cL_law 242 = .ok (.iaload, 1) := by decide +kernel
theorem dL_law_243 : decode cL_law 243 = .ok (.aload_n 0, 1) := by decide +kernel
theorem dL_law_244 : decode cL_law 244 = .ok (.iload_n 3, 1) := by decide +kernel
theorem dL_law_245 : decode cL_law 245 = .ok (.iconst 2, 1) := by decide +kernel
theorem dL_law_246 : decode cL_law 246 = .ok (.iadd, 1) := by decide +kernel
theorem dL_law_247 : decode cL_law 247 = .ok (.iaload, 1) := by decide +kernel
theorem dL_law_248 : decode cL_law 248 = .ok (.invokevirtual 39, 3) := by decide +kernel
theorem dL_law_251 : decode cL_law 251 = .ok (.if_icmp .eq 437, 3) := by decide +kernel
theorem dL_law_254 : decode cL_law 254 = .ok (.iconst 0, 1) := by decide +kernel
theorem dL_law_255 : decode cL_law 255 = .ok (.ireturn, 1) := by decide +kernel
theorem dL_law_256 : decode cL_law 256 = .ok (.aload_n 1, 1) := by decide +kernel
theorem dL_law_257 : decode cL_law 257 = .ok (.invokevirtual 40, 3) := by decide +kernel
theorem dL_law_260 : decode cL_law 260 = .ok (.aload_n 2, 1) := by decide +kernel
theorem dL_law_261 : decode cL_law 261 = .ok (.invokevirtual 43, 3) := by decide +kernel
theorem dL_law_264 : decode cL_law 264 = .ok (.if_icmp .eq 424, 3) := by decide +kernel
theorem dL_law_267 : decode cL_law 267 = .ok (.iconst 0, 1) := by decide +kernel
theorem dL_law_268 : decode cL_law 268 = .ok (.ireturn, 1) := by decide +kernel
theorem dL_law_269 : decode cL_law 269 = .ok (.aload_n 1, 1) := by decide +kernel
theorem dL_law_270 : decode cL_law 270 = .ok (.invokevirtual 44, 3) := by decide +kernel
theorem dL_law_273 : decode cL_law 273 = .ok (.aload_n 2, 1) := by decide +kernel
theorem dL_law_274 : decode cL_law 274 = .ok (.invokevirtual 47, 3) := by decide +kernel
theorem dL_law_277 : decode cL_law 277 = .ok (.if_icmp .eq 411, 3) := by decide +kernel
theorem dL_law_280 : decode cL_law 280 = .ok (.iconst 0, 1) := by decide +kernel
theorem dL_law_281 : decode cL_law 281 = .ok (.ireturn, 1) := by decide +kernel
theorem dL_law_282 : decode cL_law 282 = .ok (.aload_n 1, 1) := by decide +kernel
theorem dL_law_283 : decode cL_law 283 = .ok (.aload_n 0, 1) := by decide +kernel
theorem dL_law_284 : decode cL_law 284 = .ok (.iload_n 3, 1) := by decide +kernel
theorem dL_law_285 : decode cL_law 285 = .ok (.iconst 1, 1) := by decide +kernel
theorem dL_law_286 : decode cL_law 286 = .ok (.iadd, 1) := by decide +kernel
theorem dL_law_287 : decode cL_law 287 = .ok (.iaload, 1) := by decide +kernel
theorem dL_law_288 : decode cL_law 288 = .ok (.invokevirtual 48, 3) := by decide +kernel
theorem dL_law_291 : decode cL_law 291 = .ok (.aload_n 2, 1) := by decide +kernel
theorem dL_law_292 : decode cL_law 292 = .ok (.aload_n 0, 1) := by decide +kernel
theorem dL_law_293 : decode cL_law 293 = .ok (.iload_n 3, 1) := by decide +kernel
theorem dL_law_294 : decode cL_law 294 = .ok (.iconst 1, 1) := by decide +kernel
theorem dL_law_295 : decode cL_law 295 = .ok (.iadd, 1) := by decide +kernel
theorem dL_law_296 : decode cL_law 296 = .ok (.iaload, 1) := by decide +kernel
theorem dL_law_297 : decode cL_law 297 = .ok (.invokevirtual 51, 3) := by decide +kernel
theorem dL_law_300 : decode cL_law 300 = .ok (.if_icmp .eq 388, 3) := by decide +kernel
theorem dL_law_303 : decode cL_law 303 = .ok (.iconst 0, 1) := by decide +kernel
theorem dL_law_304 : decode cL_law 304 = .ok (.ireturn, 1) := by decide +kernel
theorem dL_law_305 : decode cL_law 305 = .ok (.aload_n 1, 1) := by decide +kernel
theorem dL_law_306 : decode cL_law 306 = .ok (.aload_n 0, 1) := by decide +kernel
theorem dL_law_307 : decode cL_law 307 = .ok (.iload_n 3, 1) := by decide +kernel
theorem dL_law_308 : decode cL_law 308 = .ok (.iconst 1, 1) := by decide +kernel
theorem dL_law_309 : decode cL_law 309 = .ok (.iadd, 1) := by decide +kernel
theorem dL_law_310 : decode cL_law 310 = .ok (.iaload, 1) := by decide +kernel
theorem dL_law_311 : decode cL_law 311 = .ok (.invokevirtual 52, 3) := by decide +kernel
theorem dL_law_314 : decode cL_law 314 = .ok (.aload_n 2, 1) := by decide +kernel
theorem dL_law_315 : decode cL_law 315 = .ok (.aload_n 0, 1) := by decide +kernel
theorem dL_law_316 : decode cL_law 316 = .ok (.iload_n 3, 1) := by decide +kernel
theorem dL_law_317 : decode cL_law 317 = .ok (.iconst 1, 1) := by decide +kernel
theorem dL_law_318 : decode cL_law 318 = .ok (.iadd, 1) := by decide +kernel
theorem dL_law_319 : decode cL_law 319 = .ok (.iaload, 1) := by decide +kernel
theorem dL_law_320 : decode cL_law 320 = .ok (.invokevirtual 55, 3) := by decide +kernel
theorem dL_law_323 : decode cL_law 323 = .ok (.if_icmp .eq 365, 3) := by decide +kernel
theorem dL_law_326 : decode cL_law 326 = .ok (.iconst 0, 1) := by decide +kernel
theorem dL_law_327 : decode cL_law 327 = .ok (.ireturn, 1) := by decide +kernel
theorem dL_law_328 : decode cL_law 328 = .ok (.aload_n 1, 1) := by decide +kernel
theorem dL_law_329 : decode cL_law 329 = .ok (.aload_n 0, 1) := by decide +kernel
theorem dL_law_330 : decode cL_law 330 = .ok (.iload_n 3, 1) := by decide +kernel
theorem dL_law_331 : decode cL_law 331 = .ok (.iconst 1, 1) := by decide +kernel
theorem dL_law_332 : decode cL_law 332 = .ok (.iadd, 1) := by decide +kernel
theorem dL_law_333 : decode cL_law 333 = .ok (.iaload, 1) := by decide +kernel
theorem dL_law_334 : decode cL_law 334 = .ok (.aload_n 0, 1) := by decide +kernel
theorem dL_law_335 : decode cL_law 335 = .ok (.iload_n 3, 1) := by decide +kernel
theorem dL_law_336 : decode cL_law 336 = .ok (.iconst 2, 1) := by decide +kernel
theorem dL_law_337 : decode cL_law 337 = .ok (.iadd, 1) := by decide +kernel
theorem dL_law_338 : decode cL_law 338 = .ok (.iaload, 1) := by decide +kernel
theorem dL_law_339 : decode cL_law 339 = .ok (.invokevirtual 56, 3) := by decide +kernel
theorem dL_law_342 : decode cL_law 342 = .ok (.aload_n 2, 1) := by decide +kernel
theorem dL_law_343 : decode cL_law 343 = .ok (.aload_n 0, 1) := by decide +kernel
theorem dL_law_344 : decode cL_law 344 = .ok (.iload_n 3, 1) := by decide +kernel
theorem dL_law_345 : decode cL_law 345 = .ok (.iconst 1, 1) := by decide +kernel
theorem dL_law_346 : decode cL_law 346 = .ok (.iadd, 1) := by decide +kernel
theorem dL_law_347 : decode cL_law 347 = .ok (.iaload, 1) := by decide +kernel
theorem dL_law_348 : decode cL_law 348 = .ok (.aload_n 0, 1) := by decide +kernel
theorem dL_law_349 : decode cL_law 349 = .ok (.iload_n 3, 1) := by decide +kernel
theorem dL_law_350 : decode cL_law 350 = .ok (.iconst 2, 1) := by decide +kernel
theorem dL_law_351 : decode cL_law 351 = .ok (.iadd, 1) := by decide +kernel
theorem dL_law_352 : decode cL_law 352 = .ok (.iaload, 1) := by decide +kernel
theorem dL_law_353 : decode cL_law 353 = .ok (.invokevirtual 59, 3) := by decide +kernel
theorem dL_law_356 : decode cL_law 356 = .ok (.if_icmp .eq 332, 3) := by decide +kernel
theorem dL_law_359 : decode cL_law 359 = .ok (.iconst 0, 1) := by decide +kernel
theorem dL_law_360 : decode cL_law 360 = .ok (.ireturn, 1) := by decide +kernel
theorem dL_law_361 : decode cL_law 361 = .ok (.aload_n 1, 1) := by decide +kernel
theorem dL_law_362 : decode cL_law 362 = .ok (.aload_n 0, 1) := by decide +kernel
theorem dL_law_363 : decode cL_law 363 = .ok (.iload_n 3, 1) := by decide +kernel
theorem dL_law_364 : decode cL_law 364 = .ok (.iconst 1, 1) := by decide +kernel
theorem dL_law_365 : decode cL_law 365 = .ok (.iadd, 1) := by decide +kernel
theorem dL_law_366 : decode cL_law 366 = .ok (.iaload, 1) := by decide +kernel
theorem dL_law_367 : decode cL_law 367 = .ok (.aload_n 0, 1) := by decide +kernel
theorem dL_law_368 : decode cL_law 368 = .ok (.iload_n 3, 1) := by decide +kernel
theorem dL_law_369 : decode cL_law 369 = .ok (.iconst 2, 1) := by decide +kernel
theorem dL_law_370 : decode cL_law 370 = .ok (.iadd, 1) := by decide +kernel
theorem dL_law_371 : decode cL_law 371 = .ok (.iaload, 1) := by decide +kernel
theorem dL_law_372 : decode cL_law 372 = .ok (.aload_n 0, 1) := by decide +kernel
theorem dL_law_373 : decode cL_law 373 = .ok (.iload_n 3, 1) := by decide +kernel
theorem dL_law_374 : decode cL_law 374 = .ok (.iconst 3, 1) := by decide +kernel
theorem dL_law_375 : decode cL_law 375 = .ok (.iadd, 1) := by decide +kernel
theorem dL_law_376 : decode cL_law 376 = .ok (.iaload, 1) := by decide +kernel
theorem dL_law_377 : decode cL_law 377 = .ok (.invokevirtual 60, 3) := by decide +kernel
theorem dL_law_380 : decode cL_law 380 = .ok (.aload_n 2, 1) := by decide +kernel
theorem dL_law_381 : decode cL_law 381 = .ok (.aload_n 0, 1) := by decide +kernel
theorem dL_law_382 : decode cL_law 382 = .ok (.iload_n 3, 1) := by decide +kernel
theorem dL_law_383 : decode cL_law 383 = .ok (.iconst 1, 1) := by decide +kernel
theorem dL_law_384 : decode cL_law 384 = .ok (.iadd, 1) := by decide +kernel
theorem dL_law_385 : decode cL_law 385 = .ok (.iaload, 1) := by decide +kernel
theorem dL_law_386 : decode cL_law 386 = .ok (.aload_n 0, 1) := by decide +kernel
theorem dL_law_387 : decode cL_law 387 = .ok (.iload_n 3, 1) := by decide +kernel
theorem dL_law_388 : decode cL_law 388 = .ok (.iconst 2, 1) := by decide +kernel
theorem dL_law_389 : decode cL_law 389 = .ok (.iadd, 1) := by decide +kernel
theorem dL_law_390 : decode cL_law 390 = .ok (.iaload, 1) := by decide +kernel
theorem dL_law_391 : decode cL_law 391 = .ok (.aload_n 0, 1) := by decide +kernel
theorem dL_law_392 : decode cL_law 392 = .ok (.iload_n 3, 1) := by decide +kernel
theorem dL_law_393 : decode cL_law 393 = .ok (.iconst 3, 1) := by decide +kernel
theorem dL_law_394 : decode cL_law 394 = .ok (.iadd, 1) := by decide +kernel
theorem dL_law_395 : decode cL_law 395 = .ok (.iaload, 1) := by decide +kernel
theorem dL_law_396 : decode cL_law 396 = .ok (.invokevirtual 64, 3) := by decide +kernel
theorem dL_law_399 : decode cL_law 399 = .ok (.if_icmp .eq 289, 3) := by decide +kernel
theorem dL_law_402 : decode cL_law 402 = .ok (.iconst 0, 1) := by decide +kernel
theorem dL_law_403 : decode cL_law 403 = .ok (.ireturn, 1) := by decide +kernel
theorem dL_law_404 : decode cL_law 404 = .ok (.aload_n 1, 1) := by decide +kernel
theorem dL_law_405 : decode cL_law 405 = .ok (.aload_n 0, 1) := by decide +kernel
theorem dL_law_406 : decode cL_law 406 = .ok (.iload_n 3, 1) := by decide +kernel
theorem dL_law_407 : decode cL_law 407 = .ok (.iconst 1, 1) := by decide +kernel
theorem dL_law_408 : decode cL_law 408 = .ok (.iadd, 1) := by decide +kernel
theorem dL_law_409 : decode cL_law 409 = .ok (.iaload, 1) := by decide +kernel
theorem dL_law_410 : decode cL_law 410 = .ok (.aload_n 0, 1) := by decide +kernel
theorem dL_law_411 : decode cL_law 411 = .ok (.iload_n 3, 1) := by decide +kernel
theorem dL_law_412 : decode cL_law 412 = .ok (.iconst 2, 1) := by decide +kernel
theorem dL_law_413 : decode cL_law 413 = .ok (.iadd, 1) := by decide +kernel
theorem dL_law_414 : decode cL_law 414 = .ok (.iaload, 1) := by decide +kernel
theorem dL_law_415 : decode cL_law 415 = .ok (.invokevirtual 65, 3) := by decide +kernel
theorem dL_law_418 : decode cL_law 418 = .ok (.aload_n 2, 1) := by decide +kernel
theorem dL_law_419 : decode cL_law 419 = .ok (.aload_n 0, 1) := by decide +kernel
theorem dL_law_420 : decode cL_law 420 = .ok (.iload_n 3, 1) := by decide +kernel
theorem dL_law_421 : decode cL_law 421 = .ok (.iconst 1, 1) := by decide +kernel
theorem dL_law_422 : decode cL_law 422 = .ok (.iadd, 1) := by decide +kernel
theorem dL_law_423 : decode cL_law 423 = .ok (.iaload, 1) := by decide +kernel
theorem dL_law_424 : decode cL_law 424 = .ok (.aload_n 0, 1) := by decide +kernel
theorem dL_law_425 : decode cL_law 425 = .ok (.iload_n 3, 1) := by decide +kernel
theorem dL_law_426 : decode cL_law 426 = .ok (.iconst 2, 1) := by decide +kernel
theorem dL_law_427 : decode cL_law 427 = .ok (.iadd, 1) := by decide +kernel
theorem dL_law_428 : decode cL_law 428 = .ok (.iaload, 1) := by decide +kernel
theorem dL_law_429 : decode cL_law 429 = .ok (.invokevirtual 68, 3) := by decide +kernel
theorem dL_law_432 : decode cL_law 432 = .ok (.if_icmp .eq 256, 3) := by decide +kernel
theorem dL_law_435 : decode cL_law 435 = .ok (.iconst 0, 1) := by decide +kernel
theorem dL_law_436 : decode cL_law 436 = .ok (.ireturn, 1) := by decide +kernel
theorem dL_law_437 : decode cL_law 437 = .ok (.aload_n 1, 1) := by decide +kernel
theorem dL_law_438 : decode cL_law 438 = .ok (.aload_n 0, 1) := by decide +kernel
theorem dL_law_439 : decode cL_law 439 = .ok (.iload_n 3, 1) := by decide +kernel
theorem dL_law_440 : decode cL_law 440 = .ok (.iconst 1, 1) := by decide +kernel
theorem dL_law_441 : decode cL_law 441 = .ok (.iadd, 1) := by decide +kernel
theorem dL_law_442 : decode cL_law 442 = .ok (.iaload, 1) := by decide +kernel
theorem dL_law_443 : decode cL_law 443 = .ok (.aload_n 0, 1) := by decide +kernel
theorem dL_law_444 : decode cL_law 444 = .ok (.iload_n 3, 1) := by decide +kernel
theorem dL_law_445 : decode cL_law 445 = .ok (.iconst 2, 1) := by decide +kernel
theorem dL_law_446 : decode cL_law 446 = .ok (.iadd, 1) := by decide +kernel
theorem dL_law_447 : decode cL_law 447 = .ok (.iaload, 1) := by decide +kernel
theorem dL_law_448 : decode cL_law 448 = .ok (.invokevirtual 69, 3) := by decide +kernel
theorem dL_law_451 : decode cL_law 451 = .ok (.aload_n 2, 1) := by decide +kernel
theorem dL_law_452 : decode cL_law 452 = .ok (.aload_n 0, 1) := by decide +kernel
theorem dL_law_453 : decode cL_law 453 = .ok (.iload_n 3, 1) := by decide +kernel
theorem dL_law_454 : decode cL_law 454 = .ok (.iconst 1, 1) := by decide +kernel
theorem dL_law_455 : decode cL_law 455 = .ok (.iadd, 1) := by decide +kernel
theorem dL_law_456 : decode cL_law 456 = .ok (.iaload, 1) := by decide +kernel
theorem dL_law_457 : decode cL_law 457 = .ok (.aload_n 0, 1) := by decide +kernel
theorem dL_law_458 : decode cL_law 458 = .ok (.iload_n 3, 1) := by decide +kernel
theorem dL_law_459 : decode cL_law 459 = .ok (.iconst 2, 1) := by decide +kernel
theorem dL_law_460 : decode cL_law 460 = .ok (.iadd, 1) := by decide +kernel
theorem dL_law_461 : decode cL_law 461 = .ok (.iaload, 1) := by decide +kernel
theorem dL_law_462 : decode cL_law 462 = .ok (.invokevirtual 72, 3) := by decide +kernel
theorem dL_law_465 : decode cL_law 465 = .ok (.if_icmp .eq 223, 3) := by decide +kernel
theorem dL_law_468 : decode cL_law 468 = .ok (.iconst 0, 1) := by decide +kernel
theorem dL_law_469 : decode cL_law 469 = .ok (.ireturn, 1) := by decide +kernel
theorem dL_law_470 : decode cL_law 470 = .ok (.aload_n 1, 1) := by decide +kernel
theorem dL_law_471 : decode cL_law 471 = .ok (.aload_n 0, 1) := by decide +kernel
theorem dL_law_472 : decode cL_law 472 = .ok (.iload_n 3, 1) := by decide +kernel
theorem dL_law_473 : decode cL_law 473 = .ok (.iconst 1, 1) := by decide +kernel
theorem dL_law_474 : decode cL_law 474 = .ok (.iadd, 1) := by decide +kernel
theorem dL_law_475 : decode cL_law 475 = .ok (.iaload, 1) := by decide +kernel
theorem dL_law_476 : decode cL_law 476 = .ok (.invokevirtual 73, 3) := by decide +kernel
theorem dL_law_479 : decode cL_law 479 = .ok (.aload_n 2, 1) := by decide +kernel
theorem dL_law_480 : decode cL_law 480 = .ok (.aload_n 0, 1) := by decide +kernel
theorem dL_law_481 : decode cL_law 481 = .ok (.iload_n 3, 1) := by decide +kernel
theorem dL_law_482 : decode cL_law 482 = .ok (.iconst 1, 1) := by decide +kernel
theorem dL_law_483 : decode cL_law 483 = .ok (.iadd, 1) := by decide +kernel
theorem dL_law_484 : decode cL_law 484 = .ok (.iaload, 1) := by decide +kernel
theorem dL_law_485 : decode cL_law 485 = .ok (.invokevirtual 76, 3) := by decide +kernel
theorem dL_law_488 : decode cL_law 488 = .ok (.if_icmp .eq 200, 3) := by decide +kernel
theorem dL_law_491 : decode cL_law 491 = .ok (.iconst 0, 1) := by decide +kernel
theorem dL_law_492 : decode cL_law 492 = .ok (.ireturn, 1) := by decide +kernel
theorem dL_law_493 : decode cL_law 493 = .ok (.aload_n 1, 1) := by decide +kernel
theorem dL_law_494 : decode cL_law 494 = .ok (.aload_n 0, 1) := by decide +kernel
theorem dL_law_495 : decode cL_law 495 = .ok (.iload_n 3, 1) := by decide +kernel
theorem dL_law_496 : decode cL_law 496 = .ok (.iconst 1, 1) := by decide +kernel
theorem dL_law_497 : decode cL_law 497 = .ok (.iadd, 1) := by decide +kernel
theorem dL_law_498 : decode cL_law 498 = .ok (.iaload, 1) := by decide +kernel
theorem dL_law_499 : decode cL_law 499 = .ok (.aload_n 0, 1) := by decide +kernel
theorem dL_law_500 : decode cL_law 500 = .ok (.iload_n 3, 1) := by decide +kernel
theorem dL_law_501 : decode cL_law 501 = .ok (.iconst 2, 1) := by decide +kernel
theorem dL_law_502 : decode cL_law 502 = .ok (.iadd, 1) := by decide +kernel
theorem dL_law_503 : decode cL_law 503 = .ok (.iaload, 1) := by decide +kernel
theorem dL_law_504 : decode cL_law 504 = .ok (.invokevirtual 77, 3) := by decide +kernel
theorem dL_law_507 : decode cL_law 507 = .ok (.aload_n 2, 1) := by decide +kernel
theorem dL_law_508 : decode cL_law 508 = .ok (.aload_n 0, 1) := by decide +kernel
theorem dL_law_509 : decode cL_law 509 = .ok (.iload_n 3, 1) := by decide +kernel
theorem dL_law_510 : decode cL_law 510 = .ok (.iconst 1, 1) := by decide +kernel
theorem dL_law_511 : decode cL_law 511 = .ok (.iadd, 1) := by decide +kernel
theorem dL_law_512 : decode cL_law 512 = .ok (.iaload, 1) := by decide +kernel
theorem dL_law_513 : decode cL_law 513 = .ok (.aload_n 0, 1) := by decide +kernel
theorem dL_law_514 : decode cL_law 514 = .ok (.iload_n 3, 1) := by decide +kernel
theorem dL_law_515 : decode cL_law 515 = .ok (.iconst 2, 1) := by decide +kernel
theorem dL_law_516 : decode cL_law 516 = .ok (.iadd, 1) := by decide +kernel
theorem dL_law_517 : decode cL_law 517 = .ok (.iaload, 1) := by decide +kernel
theorem dL_law_518 : decode cL_law 518 = .ok (.invokevirtual 80, 3) := by decide +kernel
theorem dL_law_521 : decode cL_law 521 = .ok (.if_icmp .eq 167, 3) := by decide +kernel
theorem dL_law_524 : decode cL_law 524 = .ok (.iconst 0, 1) := by decide +kernel
theorem dL_law_525 : decode cL_law 525 = .ok (.ireturn, 1) := by decide +kernel
theorem dL_law_526 : decode cL_law 526 = .ok (.aload_n 1, 1) := by decide +kernel
theorem dL_law_527 : decode cL_law 527 = .ok (.aload_n 0, 1) := by decide +kernel
theorem dL_law_528 : decode cL_law 528 = .ok (.iload_n 3, 1) := by decide +kernel
theorem dL_law_529 : decode cL_law 529 = .ok (.iconst 1, 1) := by decide +kernel
theorem dL_law_530 : decode cL_law 530 = .ok (.iadd, 1) := by decide +kernel
theorem dL_law_531 : decode cL_law 531 = .ok (.iaload, 1) := by decide +kernel
theorem dL_law_532 : decode cL_law 532 = .ok (.aload_n 0, 1) := by decide +kernel
theorem dL_law_533 : decode cL_law 533 = .ok (.iload_n 3, 1) := by decide +kernel
theorem dL_law_534 : decode cL_law 534 = .ok (.iconst 2, 1) := by decide +kernel
theorem dL_law_535 : decode cL_law 535 = .ok (.iadd, 1) := by decide +kernel
theorem dL_law_536 : decode cL_law 536 = .ok (.iaload, 1) := by decide +kernel
theorem dL_law_537 : decode cL_law 537 = .ok (.invokevirtual 81, 3) := by decide +kernel
theorem dL_law_540 : decode cL_law 540 = .ok (.aload_n 2, 1) := by decide +kernel
theorem dL_law_541 : decode cL_law 541 = .ok (.aload_n 0, 1) := by decide +kernel
theorem dL_law_542 : decode cL_law 542 = .ok (.iload_n 3, 1) := by decide +kernel
theorem dL_law_543 : decode cL_law 543 = .ok (.iconst 1, 1) := by decide +kernel
theorem dL_law_544 : decode cL_law 544 = .ok (.iadd, 1) := by decide +kernel
theorem dL_law_545 : decode cL_law 545 = .ok (.iaload, 1) := by decide +kernel
theorem dL_law_546 : decode cL_law 546 = .ok (.aload_n 0, 1) := by decide +kernel
theorem dL_law_547 : decode cL_law 547 = .ok (.iload_n 3, 1) := by decide +kernel
theorem dL_law_548 : decode cL_law 548 = .ok (.iconst 2, 1) := by decide +kernel
theorem dL_law_549 : decode cL_law 549 = .ok (.iadd, 1) := by decide +kernel
theorem dL_law_550 : decode cL_law 550 = .ok (.iaload, 1) := by decide +kernel
theorem dL_law_551 : decode cL_law 551 = .ok (.invokevirtual 84, 3) := by decide +kernel
theorem dL_law_554 : decode cL_law 554 = .ok (.if_icmp .eq 134, 3) := by decide +kernel
theorem dL_law_557 : decode cL_law 557 = .ok (.iconst 0, 1) := by decide +kernel
theorem dL_law_558 : decode cL_law 558 = .ok (.ireturn, 1) := by decide +kernel
theorem dL_law_559 : decode cL_law 559 = .ok (.aload_n 1, 1) := by decide +kernel
theorem dL_law_560 : decode cL_law 560 = .ok (.aload_n 0, 1) := by decide +kernel
theorem dL_law_561 : decode cL_law 561 = .ok (.iload_n 3, 1) := by decide +kernel
theorem dL_law_562 : decode cL_law 562 = .ok (.iconst 1, 1) := by decide +kernel
theorem dL_law_563 : decode cL_law 563 = .ok (.iadd, 1) := by decide +kernel
theorem dL_law_564 : decode cL_law 564 = .ok (.iaload, 1) := by decide +kernel
theorem dL_law_565 : decode cL_law 565 = .ok (.aload_n 0, 1) := by decide +kernel
theorem dL_law_566 : decode cL_law 566 = .ok (.iload_n 3, 1) := by decide +kernel
theorem dL_law_567 : decode cL_law 567 = .ok (.iconst 2, 1) := by decide +kernel
theorem dL_law_568 : decode cL_law 568 = .ok (.iadd, 1) := by decide +kernel
theorem dL_law_569 : decode cL_law 569 = .ok (.iaload, 1) := by decide +kernel
theorem dL_law_570 : decode cL_law 570 = .ok (.aload_n 0, 1) := by decide +kernel
theorem dL_law_571 : decode cL_law 571 = .ok (.iload_n 3, 1) := by decide +kernel
theorem dL_law_572 : decode cL_law 572 = .ok (.iconst 3, 1) := by decide +kernel
theorem dL_law_573 : decode cL_law 573 = .ok (.iadd, 1) := by decide +kernel
theorem dL_law_574 : decode cL_law 574 = .ok (.iaload, 1) := by decide +kernel
theorem dL_law_575 : decode cL_law 575 = .ok (.invokevirtual 85, 3) := by decide +kernel
theorem dL_law_578 : decode cL_law 578 = .ok (.aload_n 2, 1) := by decide +kernel
theorem dL_law_579 : decode cL_law 579 = .ok (.aload_n 0, 1) := by decide +kernel
theorem dL_law_580 : decode cL_law 580 = .ok (.iload_n 3, 1) := by decide +kernel
theorem dL_law_581 : decode cL_law 581 = .ok (.iconst 1, 1) := by decide +kernel
theorem dL_law_582 : decode cL_law 582 = .ok (.iadd, 1) := by decide +kernel
theorem dL_law_583 : decode cL_law 583 = .ok (.iaload, 1) := by decide +kernel
theorem dL_law_584 : decode cL_law 584 = .ok (.aload_n 0, 1) := by decide +kernel
theorem dL_law_585 : decode cL_law 585 = .ok (.iload_n 3, 1) := by decide +kernel
theorem dL_law_586 : decode cL_law 586 = .ok (.iconst 2, 1) := by decide +kernel
theorem dL_law_587 : decode cL_law 587 = .ok (.iadd, 1) := by decide +kernel
theorem dL_law_588 : decode cL_law 588 = .ok (.iaload, 1) := by decide +kernel
theorem dL_law_589 : decode cL_law 589 = .ok (.aload_n 0, 1) := by decide +kernel
theorem dL_law_590 : decode cL_law 590 = .ok (.iload_n 3, 1) := by decide +kernel
theorem dL_law_591 : decode cL_law 591 = .ok (.iconst 3, 1) := by decide +kernel
theorem dL_law_592 : decode cL_law 592 = .ok (.iadd, 1) := by decide +kernel
theorem dL_law_593 : decode cL_law 593 = .ok (.iaload, 1) := by decide +kernel
theorem dL_law_594 : decode cL_law 594 = .ok (.invokevirtual 88, 3) := by decide +kernel
theorem dL_law_597 : decode cL_law 597 = .ok (.if_icmp .eq 91, 3) := by decide +kernel
theorem dL_law_600 : decode cL_law 600 = .ok (.iconst 0, 1) := by decide +kernel
theorem dL_law_601 : decode cL_law 601 = .ok (.ireturn, 1) := by decide +kernel
theorem dL_law_602 : decode cL_law 602 = .ok (.aload_n 1, 1) := by decide +kernel
theorem dL_law_603 : decode cL_law 603 = .ok (.aload_n 0, 1) := by decide +kernel
theorem dL_law_604 : decode cL_law 604 = .ok (.iload_n 3, 1) := by decide +kernel
theorem dL_law_605 : decode cL_law 605 = .ok (.iconst 1, 1) := by decide +kernel
theorem dL_law_606 : decode cL_law 606 = .ok (.iadd, 1) := by decide +kernel
theorem dL_law_607 : decode cL_law 607 = .ok (.iaload, 1) := by decide +kernel
theorem dL_law_608 : decode cL_law 608 = .ok (.aload_n 0, 1) := by decide +kernel
theorem dL_law_609 : decode cL_law 609 = .ok (.iload_n 3, 1) := by decide +kernel
theorem dL_law_610 : decode cL_law 610 = .ok (.iconst 2, 1) := by decide +kernel
theorem dL_law_611 : decode cL_law 611 = .ok (.iadd, 1) := by decide +kernel
theorem dL_law_612 : decode cL_law 612 = .ok (.iaload, 1) := by decide +kernel
theorem dL_law_613 : decode cL_law 613 = .ok (.aload_n 0, 1) := by decide +kernel
theorem dL_law_614 : decode cL_law 614 = .ok (.iload_n 3, 1) := by decide +kernel
theorem dL_law_615 : decode cL_law 615 = .ok (.iconst 3, 1) := by decide +kernel
theorem dL_law_616 : decode cL_law 616 = .ok (.iadd, 1) := by decide +kernel
theorem dL_law_617 : decode cL_law 617 = .ok (.iaload, 1) := by decide +kernel
theorem dL_law_618 : decode cL_law 618 = .ok (.aload_n 0, 1) := by decide +kernel
theorem dL_law_619 : decode cL_law 619 = .ok (.iload_n 3, 1) := by decide +kernel
theorem dL_law_620 : decode cL_law 620 = .ok (.iconst 4, 1) := by decide +kernel
theorem dL_law_621 : decode cL_law 621 = .ok (.iadd, 1) := by decide +kernel
theorem dL_law_622 : decode cL_law 622 = .ok (.iaload, 1) := by decide +kernel
theorem dL_law_623 : decode cL_law 623 = .ok (.aload_n 0, 1) := by decide +kernel
theorem dL_law_624 : decode cL_law 624 = .ok (.iload_n 3, 1) := by decide +kernel
theorem dL_law_625 : decode cL_law 625 = .ok (.iconst 5, 1) := by decide +kernel
theorem dL_law_626 : decode cL_law 626 = .ok (.iadd, 1) := by decide +kernel
theorem dL_law_627 : decode cL_law 627 = .ok (.iaload, 1) := by decide +kernel
theorem dL_law_628 : decode cL_law 628 = .ok (.invokevirtual 89, 3) := by decide +kernel
theorem dL_law_631 : decode cL_law 631 = .ok (.aload_n 2, 1) := by decide +kernel
theorem dL_law_632 : decode cL_law 632 = .ok (.aload_n 0, 1) := by decide +kernel
theorem dL_law_633 : decode cL_law 633 = .ok (.iload_n 3, 1) := by decide +kernel
theorem dL_law_634 : decode cL_law 634 = .ok (.iconst 1, 1) := by decide +kernel
theorem dL_law_635 : decode cL_law 635 = .ok (.iadd, 1) := by decide +kernel
theorem dL_law_636 : decode cL_law 636 = .ok (.iaload, 1) := by decide +kernel
theorem dL_law_637 : decode cL_law 637 = .ok (.aload_n 0, 1) := by decide +kernel
theorem dL_law_638 : decode cL_law 638 = .ok (.iload_n 3, 1) := by decide +kernel
theorem dL_law_639 : decode cL_law 639 = .ok (.iconst 2, 1) := by decide +kernel
theorem dL_law_640 : decode cL_law 640 = .ok (.iadd, 1) := by decide +kernel
theorem dL_law_641 : decode cL_law 641 = .ok (.iaload, 1) := by decide +kernel
theorem dL_law_642 : decode cL_law 642 = .ok (.aload_n 0, 1) := by decide +kernel
theorem dL_law_643 : decode cL_law 643 = .ok (.iload_n 3, 1) := by decide +kernel
theorem dL_law_644 : decode cL_law 644 = .ok (.iconst 3, 1) := by decide +kernel
theorem dL_law_645 : decode cL_law 645 = .ok (.iadd, 1) := by decide +kernel
theorem dL_law_646 : decode cL_law 646 = .ok (.iaload, 1) := by decide +kernel
theorem dL_law_647 : decode cL_law 647 = .ok (.aload_n 0, 1) := by decide +kernel
theorem dL_law_648 : decode cL_law 648 = .ok (.iload_n 3, 1) := by decide +kernel
theorem dL_law_649 : decode cL_law 649 = .ok (.iconst 4, 1) := by decide +kernel
theorem dL_law_650 : decode cL_law 650 = .ok (.iadd, 1) := by decide +kernel
theorem dL_law_651 : decode cL_law 651 = .ok (.iaload, 1) := by decide +kernel
theorem dL_law_652 : decode cL_law 652 = .ok (.aload_n 0, 1) := by decide +kernel
theorem dL_law_653 : decode cL_law 653 = .ok (.iload_n 3, 1) := by decide +kernel
theorem dL_law_654 : decode cL_law 654 = .ok (.iconst 5, 1) := by decide +kernel
theorem dL_law_655 : decode cL_law 655 = .ok (.iadd, 1) := by decide +kernel
theorem dL_law_656 : decode cL_law 656 = .ok (.iaload, 1) := by decide +kernel
theorem dL_law_657 : decode cL_law 657 = .ok (.invokevirtual 93, 3) := by decide +kernel
theorem dL_law_660 : decode cL_law 660 = .ok (.if_icmp .eq 28, 3) := by decide +kernel
theorem dL_law_663 : decode cL_law 663 = .ok (.iconst 0, 1) := by decide +kernel
theorem dL_law_664 : decode cL_law 664 = .ok (.ireturn, 1) := by decide +kernel
theorem dL_law_665 : decode cL_law 665 = .ok (.aload_n 1, 1) := by decide +kernel
theorem dL_law_666 : decode cL_law 666 = .ok (.aload_n 0, 1) := by decide +kernel
theorem dL_law_667 : decode cL_law 667 = .ok (.iload_n 3, 1) := by decide +kernel
theorem dL_law_668 : decode cL_law 668 = .ok (.iconst 1, 1) := by decide +kernel
theorem dL_law_669 : decode cL_law 669 = .ok (.iadd, 1) := by decide +kernel
theorem dL_law_670 : decode cL_law 670 = .ok (.iaload, 1) := by decide +kernel
theorem dL_law_671 : decode cL_law 671 = .ok (.invokevirtual 94, 3) := by decide +kernel
theorem dL_law_674 : decode cL_law 674 = .ok (.aload_n 2, 1) := by decide +kernel
theorem dL_law_675 : decode cL_law 675 = .ok (.aload_n 0, 1) := by decide +kernel
theorem dL_law_676 : decode cL_law 676 = .ok (.iload_n 3, 1) := by decide +kernel
theorem dL_law_677 : decode cL_law 677 = .ok (.iconst 1, 1) := by decide +kernel
theorem dL_law_678 : decode cL_law 678 = .ok (.iadd, 1) := by decide +kernel
theorem dL_law_679 : decode cL_law 679 = .ok (.iaload, 1) := by decide +kernel
theorem dL_law_680 : decode cL_law 680 = .ok (.invokevirtual 97, 3) := by decide +kernel
theorem dL_law_683 : decode cL_law 683 = .ok (.if_icmp .eq 5, 3) := by decide +kernel
theorem dL_law_686 : decode cL_law 686 = .ok (.iconst 0, 1) := by decide +kernel
theorem dL_law_687 : decode cL_law 687 = .ok (.ireturn, 1) := by decide +kernel
theorem dL_law_688 : decode cL_law 688 = .ok (.iinc 3 6, 3) := by decide +kernel
theorem dL_law_691 : decode cL_law 691 = .ok (.goto (-673), 3) := by decide +kernel
theorem dL_law_694 : decode cL_law 694 = .ok (.iconst 1, 1) := by decide +kernel
theorem dL_law_695 : decode cL_law 695 = .ok (.ireturn, 1) := by decide +kernel
abbrev vwCl : List vw_C := [(RX0, TX0, 7), (RX1, TX1, 2), (RX2, TX2, 3), (RX3, TX3, 2), (RX4, TX4, 5), (RX5, TX5, 6), (RX6, TX6, 19)]
end
