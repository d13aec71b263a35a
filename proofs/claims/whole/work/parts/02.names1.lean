/-! ===== BEGIN words of one list among another's, by their places ===== -/
theorem goodIn_r {big : List Cond} (ws : List Cond) (ps : List Nat) (hp : ws = ps.filterMap (fun i => big[i]?)) (h : ws.all goodWord = true) : GoodIn big ws := by
  intro w hw
  have h1 := List.all_eq_true.mp h w hw
  rw [hp] at hw
  obtain ⟨i, -, hi⟩ := List.mem_filterMap.mp hw
  have hm : w ∈ big := by first | exact List.mem_of_getElem? hi | exact List.getElem?_mem hi
  exact ⟨hm, good_of_word h1⟩
theorem goodIn_app {big a b : List Cond} (ha : GoodIn big a) (hb : GoodIn big b) : GoodIn big (a ++ b) := fun w h => (List.mem_append.mp h).elim (ha w) (hb w)
theorem goodIn_ca {big a b : List Cond} {c : Cond} (ha : GoodIn big (c :: a)) (hb : GoodIn big b) : GoodIn big (c :: (a ++ b)) := fun w h => (List.mem_cons.mp h).elim (fun e => ha w (List.mem_cons.mpr (Or.inl e))) (fun h => (List.mem_append.mp h).elim (fun h => ha w (List.mem_cons.mpr (Or.inr h))) (hb w))
theorem goodIn_sub {big ws : List Cond} (hm : ∀ w ∈ ws, w ∈ big) (h : ws.all goodWord = true) : GoodIn big ws := fun w hw => ⟨hm w hw, good_of_word (List.all_eq_true.mp h w hw)⟩
/-! ===== END ===== -/

/-! ===== BEGIN new T[n][m]: the outer array a place, the inner ones among the pooled ===== -/
/-- f, but v at every address of l -/
def vr_up {α : Type} (f : Nat → α) (l : List Nat) (v : α) : Nat → α := fun a => if a ∈ l then v else f a
theorem vr_up_in {α : Type} {f : Nat → α} {l : List Nat} {v : α} {a : Nat} (h : a ∈ l) : vr_up f l v a = v := if_pos h
theorem vr_up_ne {α : Type} {f : Nat → α} {l : List Nat} {v : α} {a : Nat} (h : a ∉ l) : vr_up f l v a = f a := if_neg h
theorem vr_rows {L l : List Nat} {f : Nat → va_E} {e : va_E} (h : ∀ a, a ∈ l → a ∉ L) : va_pl L f ++ l.map (fun a => (a, e)) = va_pl (L ++ l) (vr_up f l e) := by
  unfold va_pl
  rw [List.map_append]
  congr 1
  · apply List.map_congr_left
    intro a ha
    rw [vr_up_ne (fun q => h a q ha)]
  · apply List.map_congr_left
    intro a ha
    rw [vr_up_in ha]
theorem vr_lay {X rows : va_W} {x : Nat × va_E} {pl : va_W} {D : va_G} {cl : List vw_C} {H : Heap} (hP : va_P D cl (((X ++ pl) ++ [x]) ++ rows) H) : va_P D cl ((X ++ [x]) ++ (pl ++ rows)) H := by
  rw [List.append_assoc (X ++ pl)] at hP
  have h := va_P.swap hP
  rw [← List.append_assoc X] at h
  have h2 := va_P.swap h
  rw [List.append_assoc (X ++ [x])] at h2
  exact h2
theorem vr_layD {X rows : va_W} {x : Nat × va_E} {pl : va_W} {A : Nat → Prop} (hD : va_D A (((X ++ pl) ++ [x]) ++ rows)) : va_D A ((X ++ [x]) ++ (pl ++ rows)) := by
  rw [List.append_assoc (X ++ pl)] at hD
  have h := va_D.swap hD
  rw [← List.append_assoc X] at h
  have h2 := va_D.swap h
  rw [List.append_assoc (X ++ [x])] at h2
  exact h2
theorem vr_outer (c : ClassId) (N h0 : Nat) : ∀ i : Nat, Jvm.Free.Multi.outerC c N h0 i = arrV c N (fun j => va_rf (if j < i then some (h0 + 1 + j) else none))
  | 0 => by
    show ({ cls := c, slots := Array.replicate N .null, vm := .none } : Cell) = _
    rw [arrV_new]
    refine congrArg (arrV c N) (funext fun j => ?_)
    simp [va_rf]
  | i + 1 => by
    show (Jvm.Free.Multi.outerC c N h0 i).setSlot i (.ref (h0 + 1 + i)) = _
    rw [vr_outer c N h0 i, arrV_store]
    refine congrArg (arrV c N) (funext fun j => ?_)
    by_cases e : j = i
    · subst e
      simp [updV, va_rf]
    · by_cases h : j < i
      · simp [updV, e, h, Nat.lt_succ_of_lt h]
      · simp [updV, e, h, show ¬ j < i + 1 by omega]
/-! ===== END ===== -/

/-! ===== BEGIN printed: names, fields, word lists, decode rows ===== -/
def RX0 : String := "MirrorShares$Beam"
def TX0 : u_T := fun k => match k with
  | 0 => ("MirrorShares$Beam", "splitPlace", "[I", true)
  | 1 => ("MirrorShares$Beam", "splitNumber", "[I", true)
  | 2 => ("MirrorShares$Beam", "rayEnd", "[I", true)
  | 3 => ("MirrorShares$Beam", "rows", "[[J", true)
  | 4 => ("MirrorShares$Beam", "parts", "[J", true)
  | 5 => ("MirrorShares$Beam", "splits", "I", false)
  | _ => ("MirrorShares$Beam", "whole", "J", false)
def tyX0 : Nat → FieldType := fun k => match k with
  | 0 => .array .int
  | 1 => .array .int
  | 2 => .array .int
  | 3 => .array (.array .long)
  | 4 => .array .long
  | 5 => .int
  | _ => .long
abbrev wsX00 : List Cond := u_ws RX0 TX0 7
theorem nmX0 : ∀ a, a < 7 → ∀ b, b < 7 → a ≠ b → (TX0 a).2.1 ≠ (TX0 b).2.1 := by decide +kernel
theorem tyX0_ok : ∀ k, k < 7 → parseFieldDescriptor (TX0 k).2.2.1 = some (tyX0 k) := by decide +kernel
abbrev cX0_init : ByteArray := prog_2_method_1_code
def yX0_init : MethodName := ⟨RX0, "<init>", "()V"⟩
abbrev cX0_outAt : ByteArray := prog_2_method_2_code
def yX0_outAt : MethodName := ⟨RX0, "outAt", "(I)J"⟩
abbrev cX0_swallowed : ByteArray := prog_2_method_3_code
def yX0_swallowed : MethodName := ⟨RX0, "swallowed", "()J"⟩
abbrev cX0_caught : ByteArray := prog_2_method_4_code
def yX0_caught : MethodName := ⟨RX0, "caught", "()J"⟩
abbrev cX0_shine : ByteArray := prog_2_method_5_code
def yX0_shine : MethodName := ⟨RX0, "shine", "(LMirrorShares$Room;I)V"⟩
abbrev cX0_findSplits : ByteArray := prog_2_method_6_code
def yX0_findSplits : MethodName := ⟨RX0, "findSplits", "(LMirrorShares$Room;I)V"⟩
abbrev cX0_noteSplit : ByteArray := prog_2_method_7_code
def yX0_noteSplit : MethodName := ⟨RX0, "noteSplit", "(I)V"⟩
abbrev cX0_endBeyond : ByteArray := prog_2_method_8_code
def yX0_endBeyond : MethodName := ⟨RX0, "endBeyond", "(LMirrorShares$Room;II)I"⟩
abbrev cX0_endOf : ByteArray := prog_2_method_9_code
def yX0_endOf : MethodName := ⟨RX0, "endOf", "(LMirrorShares$Room;II)I"⟩
abbrev cX0_setRows : ByteArray := prog_2_method_10_code
def yX0_setRows : MethodName := ⟨RX0, "setRows", "()V"⟩
abbrev cX0_solveRows : ByteArray := prog_2_method_11_code
def yX0_solveRows : MethodName := ⟨RX0, "solveRows", "()V"⟩
abbrev cX0_clearColumn : ByteArray := prog_2_method_12_code
def yX0_clearColumn : MethodName := ⟨RX0, "clearColumn", "([J[JIJ)V"⟩
abbrev cX0_addParts : ByteArray := prog_2_method_13_code
def yX0_addParts : MethodName := ⟨RX0, "addParts", "(I)V"⟩
abbrev cX0_addPart : ByteArray := prog_2_method_14_code
def yX0_addPart : MethodName := ⟨RX0, "addPart", "(IJ)V"⟩
def RX1 : String := "MirrorShares$Past"
def TX1 : u_T := fun k => match k with
  | 0 => ("MirrorShares$Past", "changes", "[I", true)
  | _ => ("MirrorShares$Past", "size", "I", false)
def tyX1 : Nat → FieldType := fun k => match k with
  | 0 => .array .int
  | _ => .int
abbrev wsX10 : List Cond := u_ws RX1 TX1 2
theorem nmX1 : ∀ a, a < 2 → ∀ b, b < 2 → a ≠ b → (TX1 a).2.1 ≠ (TX1 b).2.1 := by decide +kernel
theorem tyX1_ok : ∀ k, k < 2 → parseFieldDescriptor (TX1 k).2.2.1 = some (tyX1 k) := by decide +kernel
abbrev cX1_init : ByteArray := prog_3_method_1_code
def yX1_init : MethodName := ⟨RX1, "<init>", "()V"⟩
abbrev cX1_cellOf : ByteArray := prog_3_method_2_code
def yX1_cellOf : MethodName := ⟨RX1, "cellOf", "(I)I"⟩
abbrev cX1_kindOf : ByteArray := prog_3_method_3_code
def yX1_kindOf : MethodName := ⟨RX1, "kindOf", "(I)I"⟩
abbrev cX1_rememberKind : ByteArray := prog_3_method_4_code
def yX1_rememberKind : MethodName := ⟨RX1, "rememberKind", "(II)V"⟩
abbrev cX1_rememberTurn : ByteArray := prog_3_method_5_code
def yX1_rememberTurn : MethodName := ⟨RX1, "rememberTurn", "()V"⟩
abbrev cX1_remember : ByteArray := prog_3_method_6_code
def yX1_remember : MethodName := ⟨RX1, "remember", "(I)V"⟩
abbrev cX1_takeLatest : ByteArray := prog_3_method_7_code
def yX1_takeLatest : MethodName := ⟨RX1, "takeLatest", "()I"⟩
abbrev cX1_forget : ByteArray := prog_3_method_8_code
def yX1_forget : MethodName := ⟨RX1, "forget", "()V"⟩
def RX2 : String := "MirrorShares$Room"
def TX2 : u_T := fun k => match k with
  | 0 => ("MirrorShares$Room", "kinds", "[I", true)
  | 1 => ("MirrorShares$Room", "columns", "I", false)
  | _ => ("MirrorShares$Room", "rows", "I", false)
def tyX2 : Nat → FieldType := fun k => match k with
  | 0 => .array .int
  | 1 => .int
  | _ => .int
abbrev wsX20 : List Cond := u_ws RX2 TX2 3
theorem nmX2 : ∀ a, a < 3 → ∀ b, b < 3 → a ≠ b → (TX2 a).2.1 ≠ (TX2 b).2.1 := by decide +kernel
theorem tyX2_ok : ∀ k, k < 3 → parseFieldDescriptor (TX2 k).2.2.1 = some (tyX2 k) := by decide +kernel
abbrev cX2_init : ByteArray := prog_4_method_1_code
def yX2_init : MethodName := ⟨RX2, "<init>", "()V"⟩
abbrev cX2_cells : ByteArray := prog_4_method_2_code
def yX2_cells : MethodName := ⟨RX2, "cells", "()I"⟩
abbrev cX2_ports : ByteArray := prog_4_method_3_code
def yX2_ports : MethodName := ⟨RX2, "ports", "()I"⟩
abbrev cX2_hasPort : ByteArray := prog_4_method_4_code
def yX2_hasPort : MethodName := ⟨RX2, "hasPort", "(I)Z"⟩
abbrev cX2_kindAt : ByteArray := prog_4_method_5_code
def yX2_kindAt : MethodName := ⟨RX2, "kindAt", "(I)I"⟩
abbrev cX2_tell : ByteArray := prog_4_method_6_code
def yX2_tell : MethodName := ⟨RX2, "tell", "(II)V"⟩
abbrev cX2_countKinds : ByteArray := prog_4_method_7_code
def yX2_countKinds : MethodName := ⟨RX2, "countKinds", "(II)I"⟩
abbrev cX2_isOverfull : ByteArray := prog_4_method_8_code
def yX2_isOverfull : MethodName := ⟨RX2, "isOverfull", "()Z"⟩
abbrev cX2_doorCell : ByteArray := prog_4_method_9_code
def yX2_doorCell : MethodName := ⟨RX2, "doorCell", "(I)I"⟩
abbrev cX2_portDirection : ByteArray := prog_4_method_10_code
def yX2_portDirection : MethodName := ⟨RX2, "portDirection", "(I)I"⟩
abbrev cX2_portCell : ByteArray := prog_4_method_11_code
def yX2_portCell : MethodName := ⟨RX2, "portCell", "(I)I"⟩
abbrev cX2_beyond : ByteArray := prog_4_method_12_code
def yX2_beyond : MethodName := ⟨RX2, "beyond", "(II)I"⟩
abbrev cX2_become : ByteArray := prog_4_method_13_code
def yX2_become : MethodName := ⟨RX2, "become", "(LMirrorShares$Room;)V"⟩
abbrev cX2_becomeTurned : ByteArray := prog_4_method_14_code
def yX2_becomeTurned : MethodName := ⟨RX2, "becomeTurned", "(LMirrorShares$Room;)V"⟩
abbrev cX2_turnedKind : ByteArray := prog_4_method_15_code
def yX2_turnedKind : MethodName := ⟨RX2, "turnedKind", "(I)I"⟩
abbrev cX2_empty : ByteArray := prog_4_method_16_code
def yX2_empty : MethodName := ⟨RX2, "empty", "()V"⟩
abbrev cX2_addRow : ByteArray := prog_4_method_17_code
def yX2_addRow : MethodName := ⟨RX2, "addRow", "(I)Z"⟩
def RX3 : String := "MirrorShares$Told"
def TX3 : u_T := fun k => match k with
  | 0 => ("MirrorShares$Told", "letters", "[I", true)
  | _ => ("MirrorShares$Told", "length", "I", false)
def tyX3 : Nat → FieldType := fun k => match k with
  | 0 => .array .int
  | _ => .int
abbrev wsX30 : List Cond := u_ws RX3 TX3 2
theorem nmX3 : ∀ a, a < 2 → ∀ b, b < 2 → a ≠ b → (TX3 a).2.1 ≠ (TX3 b).2.1 := by decide +kernel
theorem tyX3_ok : ∀ k, k < 2 → parseFieldDescriptor (TX3 k).2.2.1 = some (tyX3 k) := by decide +kernel
abbrev cX3_init : ByteArray := prog_5_method_1_code
def yX3_init : MethodName := ⟨RX3, "<init>", "()V"⟩
abbrev cX3_append : ByteArray := prog_5_method_2_code
def yX3_append : MethodName := ⟨RX3, "append", "(I)I"⟩
abbrev cX3_clear : ByteArray := prog_5_method_3_code
def yX3_clear : MethodName := ⟨RX3, "clear", "()I"⟩
abbrev cX3_readInto : ByteArray := prog_5_method_4_code
def yX3_readInto : MethodName := ⟨RX3, "readInto", "(LMirrorShares$Room;)I"⟩
abbrev cX3_letterAt : ByteArray := prog_5_method_5_code
def yX3_letterAt : MethodName := ⟨RX3, "letterAt", "(I)I"⟩
abbrev cX3_endOfItem : ByteArray := prog_5_method_6_code
def yX3_endOfItem : MethodName := ⟨RX3, "endOfItem", "(I)I"⟩
abbrev cX3_readRow : ByteArray := prog_5_method_7_code
def yX3_readRow : MethodName := ⟨RX3, "readRow", "(IILMirrorShares$Room;)Z"⟩
def RX4 : String := "MirrorShares$Walk"
def TX4 : u_T := fun k => match k with
  | 0 => ("MirrorShares$Walk", "queue", "[I", true)
  | 1 => ("MirrorShares$Walk", "cellsTo", "[I", true)
  | 2 => ("MirrorShares$Walk", "cellsToPort", "[I", true)
  | 3 => ("MirrorShares$Walk", "waiting", "I", false)
  | _ => ("MirrorShares$Walk", "litCells", "I", false)
def tyX4 : Nat → FieldType := fun k => match k with
  | 0 => .array .int
  | 1 => .array .int
  | 2 => .array .int
  | 3 => .int
  | _ => .int
abbrev wsX40 : List Cond := u_ws RX4 TX4 5
theorem nmX4 : ∀ a, a < 5 → ∀ b, b < 5 → a ≠ b → (TX4 a).2.1 ≠ (TX4 b).2.1 := by decide +kernel
theorem tyX4_ok : ∀ k, k < 5 → parseFieldDescriptor (TX4 k).2.2.1 = some (tyX4 k) := by decide +kernel
abbrev cX4_init : ByteArray := prog_6_method_1_code
def yX4_init : MethodName := ⟨RX4, "<init>", "()V"⟩
abbrev cX4_goFrom : ByteArray := prog_6_method_2_code
def yX4_goFrom : MethodName := ⟨RX4, "goFrom", "(LMirrorShares$Room;I)V"⟩
abbrev cX4_fewestTo : ByteArray := prog_6_method_3_code
def yX4_fewestTo : MethodName := ⟨RX4, "fewestTo", "(I)I"⟩
abbrev cX4_enter : ByteArray := prog_6_method_4_code
def yX4_enter : MethodName := ⟨RX4, "enter", "(III)V"⟩
abbrev cX4_spread : ByteArray := prog_6_method_5_code
def yX4_spread : MethodName := ⟨RX4, "spread", "(LMirrorShares$Room;II)V"⟩
abbrev cX4_leave : ByteArray := prog_6_method_6_code
def yX4_leave : MethodName := ⟨RX4, "leave", "(LMirrorShares$Room;III)V"⟩
abbrev cX4_reach : ByteArray := prog_6_method_7_code
def yX4_reach : MethodName := ⟨RX4, "reach", "(II)V"⟩
def RX5 : String := "MirrorShares"
def TX5 : u_T := fun k => match k with
  | 0 => ("MirrorShares", "text", "LMirrorShares$Told;", true)
  | 1 => ("MirrorShares", "room", "LMirrorShares$Room;", true)
  | 2 => ("MirrorShares", "trial", "LMirrorShares$Room;", true)
  | 3 => ("MirrorShares", "past", "LMirrorShares$Past;", true)
  | 4 => ("MirrorShares", "walk", "LMirrorShares$Walk;", true)
  | _ => ("MirrorShares", "beam", "LMirrorShares$Beam;", true)
def tyX5 : Nat → FieldType := fun k => match k with
  | 0 => .object "MirrorShares$Told"
  | 1 => .object "MirrorShares$Room"
  | 2 => .object "MirrorShares$Room"
  | 3 => .object "MirrorShares$Past"
  | 4 => .object "MirrorShares$Walk"
  | _ => .object "MirrorShares$Beam"
abbrev wsX50 : List Cond := u_ws RX5 TX5 6
theorem nmX5 : ∀ a, a < 6 → ∀ b, b < 6 → a ≠ b → (TX5 a).2.1 ≠ (TX5 b).2.1 := by decide +kernel
theorem tyX5_ok : ∀ k, k < 6 → parseFieldDescriptor (TX5 k).2.2.1 = some (tyX5 k) := by decide +kernel
abbrev cX5_init : ByteArray := prog_1_method_1_code
def yX5_init : MethodName := ⟨RX5, "<init>", "()V"⟩
abbrev cX5_write : ByteArray := prog_1_method_2_code
def yX5_write : MethodName := ⟨RX5, "write", "(I)I"⟩
abbrev cX5_wipe : ByteArray := prog_1_method_3_code
def yX5_wipe : MethodName := ⟨RX5, "wipe", "()I"⟩
abbrev cX5_fault : ByteArray := prog_1_method_4_code
def yX5_fault : MethodName := ⟨RX5, "fault", "()I"⟩
abbrev cX5_lay : ByteArray := prog_1_method_5_code
def yX5_lay : MethodName := ⟨RX5, "lay", "()I"⟩
abbrev cX5_put : ByteArray := prog_1_method_6_code
def yX5_put : MethodName := ⟨RX5, "put", "(II)I"⟩
abbrev cX5_door : ByteArray := prog_1_method_7_code
def yX5_door : MethodName := ⟨RX5, "door", "(II)I"⟩
abbrev cX5_turn : ByteArray := prog_1_method_8_code
def yX5_turn : MethodName := ⟨RX5, "turn", "()I"⟩
abbrev cX5_undo : ByteArray := prog_1_method_9_code
def yX5_undo : MethodName := ⟨RX5, "undo", "()I"⟩
abbrev cX5_change : ByteArray := prog_1_method_10_code
def yX5_change : MethodName := ⟨RX5, "change", "(III)V"⟩
abbrev cX5_turnRoom : ByteArray := prog_1_method_11_code
def yX5_turnRoom : MethodName := ⟨RX5, "turnRoom", "()V"⟩
abbrev cX5_cell : ByteArray := prog_1_method_12_code
def yX5_cell : MethodName := ⟨RX5, "cell", "(I)I"⟩
abbrev cX5_doorAt : ByteArray := prog_1_method_13_code
def yX5_doorAt : MethodName := ⟨RX5, "doorAt", "(I)I"⟩
abbrev cX5_port : ByteArray := prog_1_method_14_code
def yX5_port : MethodName := ⟨RX5, "port", "(II)I"⟩
abbrev cX5_share : ByteArray := prog_1_method_15_code
def yX5_share : MethodName := ⟨RX5, "share", "(III)I"⟩
abbrev cX5_lost : ByteArray := prog_1_method_16_code
def yX5_lost : MethodName := ⟨RX5, "lost", "(II)I"⟩
abbrev cX5_bits : ByteArray := prog_1_method_17_code
def yX5_bits : MethodName := ⟨RX5, "bits", "(II)I"⟩
abbrev cX5_lit : ByteArray := prog_1_method_18_code
def yX5_lit : MethodName := ⟨RX5, "lit", "(I)I"⟩
abbrev cX5_far : ByteArray := prog_1_method_19_code
def yX5_far : MethodName := ⟨RX5, "far", "(II)I"⟩
abbrev cX5_alike : ByteArray := prog_1_method_20_code
def yX5_alike : MethodName := ⟨RX5, "alike", "(II)I"⟩
abbrev cX5_best : ByteArray := prog_1_method_21_code
def yX5_best : MethodName := ⟨RX5, "best", "(III)I"⟩
abbrev cX5_found : ByteArray := prog_1_method_22_code
def yX5_found : MethodName := ⟨RX5, "found", "(IIIII)I"⟩
abbrev cX5_count : ByteArray := prog_1_method_23_code
def yX5_count : MethodName := ⟨RX5, "count", "(I)I"⟩
abbrev cX5_hasPorts : ByteArray := prog_1_method_24_code
def yX5_hasPorts : MethodName := ⟨RX5, "hasPorts", "(II)Z"⟩
abbrev cX5_isPart : ByteArray := prog_1_method_25_code
def yX5_isPart : MethodName := ⟨RX5, "isPart", "(II)Z"⟩
abbrev cX5_openOnly : ByteArray := prog_1_method_26_code
def yX5_openOnly : MethodName := ⟨RX5, "openOnly", "(I)V"⟩
abbrev cX5_tryCell : ByteArray := prog_1_method_27_code
def yX5_tryCell : MethodName := ⟨RX5, "tryCell", "(II)V"⟩
abbrev cX5_compareFractions : ByteArray := prog_1_method_28_code
def yX5_compareFractions : MethodName := ⟨RX5, "compareFractions", "(JJJJ)I"⟩
abbrev cX5_lowest : ByteArray := prog_1_method_29_code
def yX5_lowest : MethodName := ⟨RX5, "lowest", "(JJI)I"⟩
abbrev cX5_commonDivisor : ByteArray := prog_1_method_30_code
def yX5_commonDivisor : MethodName := ⟨RX5, "commonDivisor", "(JJ)J"⟩
abbrev cX5_floatBits : ByteArray := prog_1_method_31_code
def yX5_floatBits : MethodName := ⟨RX5, "floatBits", "(II)I"⟩
abbrev cX5_isHalf : ByteArray := prog_1_method_32_code
def yX5_isHalf : MethodName := ⟨RX5, "isHalf", "(I)Z"⟩
abbrev cX5_letsOn : ByteArray := prog_1_method_33_code
def yX5_letsOn : MethodName := ⟨RX5, "letsOn", "(I)Z"⟩
abbrev cX5_turnsBeam : ByteArray := prog_1_method_34_code
def yX5_turnsBeam : MethodName := ⟨RX5, "turnsBeam", "(I)Z"⟩
abbrev cX5_turnedBy : ByteArray := prog_1_method_35_code
def yX5_turnedBy : MethodName := ⟨RX5, "turnedBy", "(II)I"⟩
def RX6 : String := "MirrorSharesModel"
def TX6 : u_T := fun k => match k with
  | 0 => ("MirrorSharesModel", "now", "[I", true)
  | 1 => ("MirrorSharesModel", "read", "[I", true)
  | 2 => ("MirrorSharesModel", "aside", "[I", true)
  | 3 => ("MirrorSharesModel", "past", "[I", true)
  | 4 => ("MirrorSharesModel", "changes", "I", false)
  | 5 => ("MirrorSharesModel", "text", "[I", true)
  | 6 => ("MirrorSharesModel", "letters", "I", false)
  | 7 => ("MirrorSharesModel", "spot", "I", false)
  | 8 => ("MirrorSharesModel", "nodes", "[I", true)
  | 9 => ("MirrorSharesModel", "comes", "[I", true)
  | 10 => ("MirrorSharesModel", "may", "[Z", true)
  | 11 => ("MirrorSharesModel", "nodeMany", "I", false)
  | 12 => ("MirrorSharesModel", "place", "[I", true)
  | 13 => ("MirrorSharesModel", "rows", "[J", true)
  | 14 => ("MirrorSharesModel", "above", "J", false)
  | 15 => ("MirrorSharesModel", "below", "J", false)
  | 16 => ("MirrorSharesModel", "line", "[I", true)
  | 17 => ("MirrorSharesModel", "took", "[I", true)
  | _ => ("MirrorSharesModel", "met", "I", false)
def tyX6 : Nat → FieldType := fun k => match k with
  | 0 => .array .int
  | 1 => .array .int
  | 2 => .array .int
  | 3 => .array .int
  | 4 => .int
  | 5 => .array .int
  | 6 => .int
  | 7 => .int
  | 8 => .array .int
  | 9 => .array .int
  | 10 => .array .boolean
  | 11 => .int
  | 12 => .array .int
  | 13 => .array .long
  | 14 => .long
  | 15 => .long
  | 16 => .array .int
  | 17 => .array .int
  | _ => .int
abbrev wsX60 : List Cond := u_ws RX6 TX6 19
theorem nmX6 : ∀ a, a < 19 → ∀ b, b < 19 → a ≠ b → (TX6 a).2.1 ≠ (TX6 b).2.1 := by decide +kernel
theorem tyX6_ok : ∀ k, k < 19 → parseFieldDescriptor (TX6 k).2.2.1 = some (tyX6 k) := by decide +kernel
abbrev cX6_init : ByteArray := prog_8_method_1_code
def yX6_init : MethodName := ⟨RX6, "<init>", "()V"⟩
abbrev cX6_in : ByteArray := prog_8_method_3_code
def yX6_in : MethodName := ⟨RX6, "in", "(III)Z"⟩
abbrev cX6_copies : ByteArray := prog_8_method_4_code
def yX6_copies : MethodName := ⟨RX6, "copies", "([II[II)V"⟩
abbrev cX6_cells : ByteArray := prog_8_method_5_code
def yX6_cells : MethodName := ⟨RX6, "cells", "([I)I"⟩
abbrev cX6_isHalf : ByteArray := prog_8_method_6_code
def yX6_isHalf : MethodName := ⟨RX6, "isHalf", "(I)Z"⟩
abbrev cX6_isDoor : ByteArray := prog_8_method_7_code
def yX6_isDoor : MethodName := ⟨RX6, "isDoor", "(I)Z"⟩
abbrev cX6_halves : ByteArray := prog_8_method_8_code
def yX6_halves : MethodName := ⟨RX6, "halves", "([I)I"⟩
abbrev cX6_doors : ByteArray := prog_8_method_9_code
def yX6_doors : MethodName := ⟨RX6, "doors", "([I)I"⟩
abbrev cX6_kindOf : ByteArray := prog_8_method_10_code
def yX6_kindOf : MethodName := ⟨RX6, "kindOf", "(I)I"⟩
abbrev cX6_takesRow : ByteArray := prog_8_method_11_code
def yX6_takesRow : MethodName := ⟨RX6, "takesRow", "()Z"⟩
abbrev cX6_reads : ByteArray := prog_8_method_12_code
def yX6_reads : MethodName := ⟨RX6, "reads", "()I"⟩
abbrev cX6_write : ByteArray := prog_8_method_13_code
def yX6_write : MethodName := ⟨RX6, "write", "(I)I"⟩
abbrev cX6_wipe : ByteArray := prog_8_method_14_code
def yX6_wipe : MethodName := ⟨RX6, "wipe", "()I"⟩
abbrev cX6_fault : ByteArray := prog_8_method_15_code
def yX6_fault : MethodName := ⟨RX6, "fault", "()I"⟩
abbrev cX6_lay : ByteArray := prog_8_method_16_code
def yX6_lay : MethodName := ⟨RX6, "lay", "()I"⟩
abbrev cX6_keeps : ByteArray := prog_8_method_17_code
def yX6_keeps : MethodName := ⟨RX6, "keeps", "()V"⟩
abbrev cX6_undo : ByteArray := prog_8_method_18_code
def yX6_undo : MethodName := ⟨RX6, "undo", "()I"⟩
abbrev cX6_isCell : ByteArray := prog_8_method_19_code
def yX6_isCell : MethodName := ⟨RX6, "isCell", "(I)Z"⟩
abbrev cX6_put : ByteArray := prog_8_method_20_code
def yX6_put : MethodName := ⟨RX6, "put", "(II)I"⟩
abbrev cX6_doorCell : ByteArray := prog_8_method_21_code
def yX6_doorCell : MethodName := ⟨RX6, "doorCell", "([II)I"⟩
abbrev cX6_openOf : ByteArray := prog_8_method_22_code
def yX6_openOf : MethodName := ⟨RX6, "openOf", "([I)I"⟩
abbrev cX6_isTheDoor : ByteArray := prog_8_method_23_code
def yX6_isTheDoor : MethodName := ⟨RX6, "isTheDoor", "(I)Z"⟩
abbrev cX6_door : ByteArray := prog_8_method_24_code
def yX6_door : MethodName := ⟨RX6, "door", "(II)I"⟩
abbrev cX6_turn : ByteArray := prog_8_method_25_code
def yX6_turn : MethodName := ⟨RX6, "turn", "()I"⟩
abbrev cX6_cell : ByteArray := prog_8_method_26_code
def yX6_cell : MethodName := ⟨RX6, "cell", "(I)I"⟩
abbrev cX6_doorAt : ByteArray := prog_8_method_27_code
def yX6_doorAt : MethodName := ⟨RX6, "doorAt", "(I)I"⟩
abbrev cX6_ports : ByteArray := prog_8_method_28_code
def yX6_ports : MethodName := ⟨RX6, "ports", "([I)I"⟩
abbrev cX6_isPort : ByteArray := prog_8_method_29_code
def yX6_isPort : MethodName := ⟨RX6, "isPort", "(I)Z"⟩
abbrev cX6_portState : ByteArray := prog_8_method_30_code
def yX6_portState : MethodName := ⟨RX6, "portState", "([II)I"⟩
abbrev cX6_port : ByteArray := prog_8_method_31_code
def yX6_port : MethodName := ⟨RX6, "port", "(II)I"⟩
abbrev cX6_onward : ByteArray := prog_8_method_32_code
def yX6_onward : MethodName := ⟨RX6, "onward", "([III)I"⟩
abbrev cX6_turned : ByteArray := prog_8_method_33_code
def yX6_turned : MethodName := ⟨RX6, "turned", "(II)I"⟩
abbrev cX6_waysOf : ByteArray := prog_8_method_34_code
def yX6_waysOf : MethodName := ⟨RX6, "waysOf", "([II)I"⟩
abbrev cX6_goes : ByteArray := prog_8_method_35_code
def yX6_goes : MethodName := ⟨RX6, "goes", "([III)I"⟩
abbrev cX6_follows : ByteArray := prog_8_method_36_code
def yX6_follows : MethodName := ⟨RX6, "follows", "([II)I"⟩
abbrev cX6_isAsked : ByteArray := prog_8_method_37_code
def yX6_isAsked : MethodName := ⟨RX6, "isAsked", "(II)Z"⟩
abbrev cX6_gathers : ByteArray := prog_8_method_38_code
def yX6_gathers : MethodName := ⟨RX6, "gathers", "([II)V"⟩
abbrev cX6_findsMay : ByteArray := prog_8_method_39_code
def yX6_findsMay : MethodName := ⟨RX6, "findsMay", "(I)V"⟩
abbrev cX6_laysRows : ByteArray := prog_8_method_40_code
def yX6_laysRows : MethodName := ⟨RX6, "laysRows", "(I)I"⟩
abbrev cX6_solves : ByteArray := prog_8_method_41_code
def yX6_solves : MethodName := ⟨RX6, "solves", "(I)V"⟩
abbrev cX6_lowers : ByteArray := prog_8_method_42_code
def yX6_lowers : MethodName := ⟨RX6, "lowers", "()V"⟩
abbrev cX6_shares : ByteArray := prog_8_method_43_code
def yX6_shares : MethodName := ⟨RX6, "shares", "([III)V"⟩
abbrev cX6_share : ByteArray := prog_8_method_44_code
def yX6_share : MethodName := ⟨RX6, "share", "(III)I"⟩
abbrev cX6_lostOf : ByteArray := prog_8_method_45_code
def yX6_lostOf : MethodName := ⟨RX6, "lostOf", "(II)J"⟩
abbrev cX6_lost : ByteArray := prog_8_method_46_code
def yX6_lost : MethodName := ⟨RX6, "lost", "(II)I"⟩
abbrev cX6_bits : ByteArray := prog_8_method_47_code
def yX6_bits : MethodName := ⟨RX6, "bits", "(II)I"⟩
abbrev cX6_spreads : ByteArray := prog_8_method_48_code
def yX6_spreads : MethodName := ⟨RX6, "spreads", "(I)V"⟩
abbrev cX6_lit : ByteArray := prog_8_method_49_code
def yX6_lit : MethodName := ⟨RX6, "lit", "(I)I"⟩
abbrev cX6_far : ByteArray := prog_8_method_50_code
def yX6_far : MethodName := ⟨RX6, "far", "(II)I"⟩
abbrev cX6_alike : ByteArray := prog_8_method_51_code
def yX6_alike : MethodName := ⟨RX6, "alike", "(II)I"⟩
abbrev cX6_ones : ByteArray := prog_8_method_52_code
def yX6_ones : MethodName := ⟨RX6, "ones", "(I)I"⟩
abbrev cX6_best : ByteArray := prog_8_method_53_code
def yX6_best : MethodName := ⟨RX6, "best", "(III)I"⟩
abbrev cX6_found : ByteArray := prog_8_method_54_code
def yX6_found : MethodName := ⟨RX6, "found", "(IIIII)I"⟩
abbrev cX6_count : ByteArray := prog_8_method_55_code
def yX6_count : MethodName := ⟨RX6, "count", "(I)I"⟩
def RJx145de : String := "java/io/Serializable"
def TJx145de : u_T := fun k => match k with
  | _ => ("", "", "", false)
def tyJx145de : Nat → FieldType := fun k => match k with
  | _ => .int
abbrev wsJx145de0 : List Cond := u_ws RJx145de TJx145de 0
theorem nmJx145de : ∀ a, a < 0 → ∀ b, b < 0 → a ≠ b → (TJx145de a).2.1 ≠ (TJx145de b).2.1 := by decide +kernel
theorem tyJx145de_ok : ∀ k, k < 0 → parseFieldDescriptor (TJx145de k).2.2.1 = some (tyJx145de k) := by decide +kernel
def RJx9f9b0 : String := "java/lang/CharSequence"
def TJx9f9b0 : u_T := fun k => match k with
  | _ => ("", "", "", false)
def tyJx9f9b0 : Nat → FieldType := fun k => match k with
  | _ => .int
abbrev wsJx9f9b00 : List Cond := u_ws RJx9f9b0 TJx9f9b0 0
theorem nmJx9f9b0 : ∀ a, a < 0 → ∀ b, b < 0 → a ≠ b → (TJx9f9b0 a).2.1 ≠ (TJx9f9b0 b).2.1 := by decide +kernel
theorem tyJx9f9b0_ok : ∀ k, k < 0 → parseFieldDescriptor (TJx9f9b0 k).2.2.1 = some (tyJx9f9b0 k) := by decide +kernel
def RJ11 : String := "java/lang/Character"
def TJ11 : u_T := fun k => match k with
  | _ => ("", "", "", false)
def tyJ11 : Nat → FieldType := fun k => match k with
  | _ => .int
abbrev wsJ110 : List Cond := u_ws RJ11 TJ11 0
theorem nmJ11 : ∀ a, a < 0 → ∀ b, b < 0 → a ≠ b → (TJ11 a).2.1 ≠ (TJ11 b).2.1 := by decide +kernel
theorem tyJ11_ok : ∀ k, k < 0 → parseFieldDescriptor (TJ11 k).2.2.1 = some (tyJ11 k) := by decide +kernel
abbrev cJ11_isValidCodePoint_9a6ad : ByteArray := prog_9_method_11_code
def yJ11_isValidCodePoint_9a6ad : MethodName := ⟨RJ11, "isValidCodePoint", "(I)Z"⟩
abbrev cJ11_highSurrogate_5068e : ByteArray := prog_9_method_28_code
def yJ11_highSurrogate_5068e : MethodName := ⟨RJ11, "highSurrogate", "(I)C"⟩
abbrev cJ11_lowSurrogate_5068e : ByteArray := prog_9_method_29_code
def yJ11_lowSurrogate_5068e : MethodName := ⟨RJ11, "lowSurrogate", "(I)C"⟩
def RJxb160c : String := "java/lang/Comparable"
def TJxb160c : u_T := fun k => match k with
  | _ => ("", "", "", false)
def tyJxb160c : Nat → FieldType := fun k => match k with
  | _ => .int
abbrev wsJxb160c0 : List Cond := u_ws RJxb160c TJxb160c 0
theorem nmJxb160c : ∀ a, a < 0 → ∀ b, b < 0 → a ≠ b → (TJxb160c a).2.1 ≠ (TJxb160c b).2.1 := by decide +kernel
theorem tyJxb160c_ok : ∀ k, k < 0 → parseFieldDescriptor (TJxb160c k).2.2.1 = some (tyJxb160c k) := by decide +kernel
def RJxf58ca : String := "java/lang/Float"
def TJxf58ca : u_T := fun k => match k with
  | _ => ("", "", "", false)
def tyJxf58ca : Nat → FieldType := fun k => match k with
  | _ => .int
abbrev wsJxf58ca0 : List Cond := u_ws RJxf58ca TJxf58ca 0
theorem nmJxf58ca : ∀ a, a < 0 → ∀ b, b < 0 → a ≠ b → (TJxf58ca a).2.1 ≠ (TJxf58ca b).2.1 := by decide +kernel
theorem tyJxf58ca_ok : ∀ k, k < 0 → parseFieldDescriptor (TJxf58ca k).2.2.1 = some (tyJxf58ca k) := by decide +kernel
abbrev cJxf58ca_isNaN_12338 : ByteArray := prog_10_method_6_code
def yJxf58ca_isNaN_12338 : MethodName := ⟨RJxf58ca, "isNaN", "(F)Z"⟩
abbrev cJxf58ca_floatToIntBits_5c35a : ByteArray := prog_10_method_24_code
def yJxf58ca_floatToIntBits_5c35a : MethodName := ⟨RJxf58ca, "floatToIntBits", "(F)I"⟩
def RJ6 : String := "java/lang/Integer"
def TJ6 : u_T := fun k => match k with
  | _ => ("", "", "", false)
def tyJ6 : Nat → FieldType := fun k => match k with
  | _ => .int
abbrev wsJ60 : List Cond := u_ws RJ6 TJ6 0
theorem nmJ6 : ∀ a, a < 0 → ∀ b, b < 0 → a ≠ b → (TJ6 a).2.1 ≠ (TJ6 b).2.1 := by decide +kernel
theorem tyJ6_ok : ∀ k, k < 0 → parseFieldDescriptor (TJ6 k).2.2.1 = some (tyJ6 k) := by decide +kernel
abbrev cJ6_bitCount_0f7a4 : ByteArray := prog_11_method_49_code
def yJ6_bitCount_0f7a4 : MethodName := ⟨RJ6, "bitCount", "(I)I"⟩
def RJ13 : String := "java/lang/Long"
def TJ13 : u_T := fun k => match k with
  | _ => ("", "", "", false)
def tyJ13 : Nat → FieldType := fun k => match k with
  | _ => .int
abbrev wsJ130 : List Cond := u_ws RJ13 TJ13 0
theorem nmJ13 : ∀ a, a < 0 → ∀ b, b < 0 → a ≠ b → (TJ13 a).2.1 ≠ (TJ13 b).2.1 := by decide +kernel
theorem tyJ13_ok : ∀ k, k < 0 → parseFieldDescriptor (TJ13 k).2.2.1 = some (tyJ13 k) := by decide +kernel
abbrev cJ13_compare_74951 : ByteArray := prog_12_method_42_code
def yJ13_compare_74951 : MethodName := ⟨RJ13, "compare", "(JJ)I"⟩
def RJ9 : String := "java/lang/Math"
def TJ9 : u_T := fun k => match k with
  | _ => ("", "", "", false)
def tyJ9 : Nat → FieldType := fun k => match k with
  | _ => .int
abbrev wsJ90 : List Cond := u_ws RJ9 TJ9 0
theorem nmJ9 : ∀ a, a < 0 → ∀ b, b < 0 → a ≠ b → (TJ9 a).2.1 ≠ (TJ9 b).2.1 := by decide +kernel
theorem tyJ9_ok : ∀ k, k < 0 → parseFieldDescriptor (TJ9 k).2.2.1 = some (tyJ9 k) := by decide +kernel
abbrev cJ9_max_7cf53 : ByteArray := prog_13_method_65_code
def yJ9_max_7cf53 : MethodName := ⟨RJ9, "max", "(II)I"⟩
abbrev cJ9_min_7cf53 : ByteArray := prog_13_method_69_code
def yJ9_min_7cf53 : MethodName := ⟨RJ9, "min", "(II)I"⟩
def RJxd2413 : String := "java/lang/Number"
def TJxd2413 : u_T := fun k => match k with
  | _ => ("", "", "", false)
def tyJxd2413 : Nat → FieldType := fun k => match k with
  | _ => .int
abbrev wsJxd24130 : List Cond := u_ws RJxd2413 TJxd2413 0
theorem nmJxd2413 : ∀ a, a < 0 → ∀ b, b < 0 → a ≠ b → (TJxd2413 a).2.1 ≠ (TJxd2413 b).2.1 := by decide +kernel
theorem tyJxd2413_ok : ∀ k, k < 0 → parseFieldDescriptor (TJxd2413 k).2.2.1 = some (tyJxd2413 k) := by decide +kernel
def RJ0 : String := "java/lang/String"
def TJ0 : u_T := fun k => match k with
  | _ => ("", "", "", false)
def tyJ0 : Nat → FieldType := fun k => match k with
  | _ => .int
abbrev wsJ00 : List Cond := u_ws RJ0 TJ0 0
theorem nmJ0 : ∀ a, a < 0 → ∀ b, b < 0 → a ≠ b → (TJ0 a).2.1 ≠ (TJ0 b).2.1 := by decide +kernel
theorem tyJ0_ok : ∀ k, k < 0 → parseFieldDescriptor (TJ0 k).2.2.1 = some (tyJ0 k) := by decide +kernel
abbrev cJ0_length_8abf5 : ByteArray := prog_15_method_54_code
def yJ0_length_8abf5 : MethodName := ⟨RJ0, "length", "()I"⟩
abbrev cJ0_indexOf_0f7a4 : ByteArray := prog_15_method_79_code
def yJ0_indexOf_0f7a4 : MethodName := ⟨RJ0, "indexOf", "(I)I"⟩
abbrev cJ0_indexOf_7cf53 : ByteArray := prog_15_method_80_code
def yJ0_indexOf_7cf53 : MethodName := ⟨RJ0, "indexOf", "(II)I"⟩
abbrev cJ0_coder_7d493 : ByteArray := prog_15_method_152_code
def yJ0_coder_7d493 : MethodName := ⟨RJ0, "coder", "()B"⟩
abbrev cJ0_isLatin1_aae02 : ByteArray := prog_15_method_154_code
def yJ0_isLatin1_aae02 : MethodName := ⟨RJ0, "isLatin1", "()Z"⟩
abbrev cJ0_checkBoundsBeginEnd_23922 : ByteArray := prog_15_method_158_code
def yJ0_checkBoundsBeginEnd_23922 : MethodName := ⟨RJ0, "checkBoundsBeginEnd", "(III)V"⟩
def RJ1 : String := "java/lang/StringLatin1"
def TJ1 : u_T := fun k => match k with
  | _ => ("", "", "", false)
def tyJ1 : Nat → FieldType := fun k => match k with
  | _ => .int
abbrev wsJ10 : List Cond := u_ws RJ1 TJ1 0
theorem nmJ1 : ∀ a, a < 0 → ∀ b, b < 0 → a ≠ b → (TJ1 a).2.1 ≠ (TJ1 b).2.1 := by decide +kernel
theorem tyJ1_ok : ∀ k, k < 0 → parseFieldDescriptor (TJ1 k).2.2.1 = some (tyJ1 k) := by decide +kernel
abbrev cJ1_canEncode_9a6ad : ByteArray := prog_16_method_4_code
def yJ1_canEncode_9a6ad : MethodName := ⟨RJ1, "canEncode", "(I)Z"⟩
abbrev cJ1_indexOf_4cfef : ByteArray := prog_16_method_22_code
def yJ1_indexOf_4cfef : MethodName := ⟨RJ1, "indexOf", "([BIII)I"⟩
abbrev cJ1_indexOfChar_4cfef : ByteArray := prog_16_method_23_code
def yJ1_indexOfChar_4cfef : MethodName := ⟨RJ1, "indexOfChar", "([BIII)I"⟩
def RJ2 : String := "java/lang/StringUTF16"
def TJ2 : u_T := fun k => match k with
  | _ => ("", "", "", false)
def tyJ2 : Nat → FieldType := fun k => match k with
  | _ => .int
abbrev wsJ20 : List Cond := u_ws RJ2 TJ2 0
theorem nmJ2 : ∀ a, a < 0 → ∀ b, b < 0 → a ≠ b → (TJ2 a).2.1 ≠ (TJ2 b).2.1 := by decide +kernel
theorem tyJ2_ok : ∀ k, k < 0 → parseFieldDescriptor (TJ2 k).2.2.1 = some (tyJ2 k) := by decide +kernel
abbrev cJ2_getChar_3b067 : ByteArray := prog_17_method_5_code
def yJ2_getChar_3b067 : MethodName := ⟨RJ2, "getChar", "([BI)C"⟩
abbrev cJ2_length_9d52b : ByteArray := prog_17_method_6_code
def yJ2_length_9d52b : MethodName := ⟨RJ2, "length", "([B)I"⟩
abbrev cJ2_indexOf_4cfef : ByteArray := prog_17_method_40_code
def yJ2_indexOf_4cfef : MethodName := ⟨RJ2, "indexOf", "([BIII)I"⟩
abbrev cJ2_indexOfChar_4cfef : ByteArray := prog_17_method_47_code
def yJ2_indexOfChar_4cfef : MethodName := ⟨RJ2, "indexOfChar", "([BIII)I"⟩
abbrev cJ2_indexOfCharUnsafe_4cfef : ByteArray := prog_17_method_48_code
def yJ2_indexOfCharUnsafe_4cfef : MethodName := ⟨RJ2, "indexOfCharUnsafe", "([BIII)I"⟩
abbrev cJ2_indexOfSupplementary_4cfef : ByteArray := prog_17_method_49_code
def yJ2_indexOfSupplementary_4cfef : MethodName := ⟨RJ2, "indexOfSupplementary", "([BIII)I"⟩
abbrev cJ2_checkBoundsBeginEnd_d044e : ByteArray := prog_17_method_93_code
def yJ2_checkBoundsBeginEnd_d044e : MethodName := ⟨RJ2, "checkBoundsBeginEnd", "(II[B)V"⟩
def RJ10 : String := "java/lang/System"
def TJ10 : u_T := fun k => match k with
  | _ => ("", "", "", false)
def tyJ10 : Nat → FieldType := fun k => match k with
  | _ => .int
abbrev wsJ100 : List Cond := u_ws RJ10 TJ10 0
theorem nmJ10 : ∀ a, a < 0 → ∀ b, b < 0 → a ≠ b → (TJ10 a).2.1 ≠ (TJ10 b).2.1 := by decide +kernel
theorem tyJ10_ok : ∀ k, k < 0 → parseFieldDescriptor (TJ10 k).2.2.1 = some (tyJ10 k) := by decide +kernel
def RJxfd54e : String := "java/lang/constant/Constable"
def TJxfd54e : u_T := fun k => match k with
  | _ => ("", "", "", false)
def tyJxfd54e : Nat → FieldType := fun k => match k with
  | _ => .int
abbrev wsJxfd54e0 : List Cond := u_ws RJxfd54e TJxfd54e 0
theorem nmJxfd54e : ∀ a, a < 0 → ∀ b, b < 0 → a ≠ b → (TJxfd54e a).2.1 ≠ (TJxfd54e b).2.1 := by decide +kernel
theorem tyJxfd54e_ok : ∀ k, k < 0 → parseFieldDescriptor (TJxfd54e k).2.2.1 = some (tyJxfd54e k) := by decide +kernel
def RJx3cf43 : String := "java/lang/constant/ConstantDesc"
def TJx3cf43 : u_T := fun k => match k with
  | _ => ("", "", "", false)
def tyJx3cf43 : Nat → FieldType := fun k => match k with
  | _ => .int
abbrev wsJx3cf430 : List Cond := u_ws RJx3cf43 TJx3cf43 0
theorem nmJx3cf43 : ∀ a, a < 0 → ∀ b, b < 0 → a ≠ b → (TJx3cf43 a).2.1 ≠ (TJx3cf43 b).2.1 := by decide +kernel
theorem tyJx3cf43_ok : ∀ k, k < 0 → parseFieldDescriptor (TJx3cf43 k).2.2.1 = some (tyJx3cf43 k) := by decide +kernel
def RJ7 : String := "java/util/Arrays"
def TJ7 : u_T := fun k => match k with
  | _ => ("", "", "", false)
def tyJ7 : Nat → FieldType := fun k => match k with
  | _ => .int
abbrev wsJ70 : List Cond := u_ws RJ7 TJ7 0
theorem nmJ7 : ∀ a, a < 0 → ∀ b, b < 0 → a ≠ b → (TJ7 a).2.1 ≠ (TJ7 b).2.1 := by decide +kernel
theorem tyJ7_ok : ∀ k, k < 0 → parseFieldDescriptor (TJ7 k).2.2.1 = some (tyJ7 k) := by decide +kernel
abbrev cJ7_fill_d0a16 : ByteArray := prog_19_method_101_code
def yJ7_fill_d0a16 : MethodName := ⟨RJ7, "fill", "([JJ)V"⟩
abbrev cJ7_fill_53178 : ByteArray := prog_19_method_103_code
def yJ7_fill_53178 : MethodName := ⟨RJ7, "fill", "([II)V"⟩
def RJ3 : String := "jdk/internal/util/Preconditions"
def TJ3 : u_T := fun k => match k with
  | _ => ("", "", "", false)
def tyJ3 : Nat → FieldType := fun k => match k with
  | _ => .int
abbrev wsJ30 : List Cond := u_ws RJ3 TJ3 0
theorem nmJ3 : ∀ a, a < 0 → ∀ b, b < 0 → a ≠ b → (TJ3 a).2.1 ≠ (TJ3 b).2.1 := by decide +kernel
theorem tyJ3_ok : ∀ k, k < 0 → parseFieldDescriptor (TJ3 k).2.2.1 = some (tyJ3 k) := by decide +kernel
abbrev cJ3_checkFromToIndex_8c36e : ByteArray := prog_20_method_12_code
def yJ3_checkFromToIndex_8c36e : MethodName := ⟨RJ3, "checkFromToIndex", "(IIILjava/util/function/BiFunction;)I"⟩
def RL : String := "MirrorSharesLaw"
abbrev cL_law : ByteArray := code
def yL_law : MethodName := ⟨RL, "law", "([I)Z"⟩
def wsX0_init : List Cond := .code yX0_init cX0_init 1 none :: ([.methodLink RX0 5 objectInit, .instanceMethod objectInit, .code objectInit ⟨#[0xb1]⟩ 1 none, .arrayClass .int, .fieldLink RX0 11 "MirrorShares$Beam" "splitPlace" "[I", .fieldLink RX0 15 "MirrorShares$Beam" "splitNumber" "[I", .fieldLink RX0 18 "MirrorShares$Beam" "rayEnd" "[I", .classLink RX0 21 "[[J", .arrayClass .long, .fieldLink RX0 23 "MirrorShares$Beam" "rows" "[[J", .fieldLink RX0 26 "MirrorShares$Beam" "parts" "[J", .fieldLink RX0 30 "MirrorShares$Beam" "splits" "I", .fieldLink RX0 34 "MirrorShares$Beam" "whole" "J"] ++ wsX00)
def wsX0_outAt : List Cond := .code yX0_outAt cX0_outAt 2 (some .long) :: ([.fieldLink RX0 26 "MirrorShares$Beam" "parts" "[J"] ++ wsX00)
def wsX0_swallowed : List Cond := .code yX0_swallowed cX0_swallowed 1 (some .long) :: ([.fieldLink RX0 26 "MirrorShares$Beam" "parts" "[J"] ++ wsX00)
def wsX0_caught : List Cond := .code yX0_caught cX0_caught 4 (some .long) :: ([.fieldLink RX0 34 "MirrorShares$Beam" "whole" "J", .methodLink RX0 38 yX0_swallowed, .instanceMethod yX0_swallowed, .selects RX0 yX0_swallowed yX0_swallowed, .initialized RX0, .code yX0_swallowed cX0_swallowed 1 (some .long), .fieldLink RX0 26 "MirrorShares$Beam" "parts" "[J", .methodLink RX0 42 yX0_outAt, .instanceMethod yX0_outAt, .selects RX0 yX0_outAt yX0_outAt, .code yX0_outAt cX0_outAt 2 (some .long)] ++ wsX00)
def wsX2_portDirection : List Cond := .code yX2_portDirection cX2_portDirection 2 (some .int) :: ([.fieldLink RX2 15 "MirrorShares$Room" "columns" "I", .fieldLink RX2 19 "MirrorShares$Room" "rows" "I"] ++ wsX20)
def wsX2_portCell : List Cond := .code yX2_portCell cX2_portCell 2 (some .int) :: ([.fieldLink RX2 15 "MirrorShares$Room" "columns" "I", .fieldLink RX2 19 "MirrorShares$Room" "rows" "I", .methodLink RX2 46 yX2_portDirection, .instanceMethod yX2_portDirection, .selects RX2 yX2_portDirection yX2_portDirection, .initialized RX2, .code yX2_portDirection cX2_portDirection 2 (some .int)] ++ wsX20)
def wsX2_cells : List Cond := .code yX2_cells cX2_cells 1 (some .int) :: ([.fieldLink RX2 15 "MirrorShares$Room" "columns" "I", .fieldLink RX2 19 "MirrorShares$Room" "rows" "I"] ++ wsX20)
def wsX2_kindAt : List Cond := .code yX2_kindAt cX2_kindAt 2 (some .int) :: ([.fieldLink RX2 9 "MirrorShares$Room" "kinds" "[I", .methodLink RX2 35 yX2_cells, .instanceMethod yX2_cells, .selects RX2 yX2_cells yX2_cells, .initialized RX2, .code yX2_cells cX2_cells 1 (some .int), .fieldLink RX2 15 "MirrorShares$Room" "columns" "I", .fieldLink RX2 19 "MirrorShares$Room" "rows" "I"] ++ wsX20)
def wsX5_isHalf : List Cond := .code yX5_isHalf cX5_isHalf 1 (some .boolean) :: ([])
def wsX5_turnedBy : List Cond := .code yX5_turnedBy cX5_turnedBy 3 (some .int) :: ([])
def wsX5_letsOn : List Cond := .code yX5_letsOn cX5_letsOn 1 (some .boolean) :: ([.methodLink RX5 209 yX5_isHalf, .static yX5_isHalf, .initialized RX5, .code yX5_isHalf cX5_isHalf 1 (some .boolean)])
def wsX5_turnsBeam : List Cond := .code yX5_turnsBeam cX5_turnsBeam 1 (some .boolean) :: ([.methodLink RX5 209 yX5_isHalf, .static yX5_isHalf, .initialized RX5, .code yX5_isHalf cX5_isHalf 1 (some .boolean)])
def wsX2_beyond : List Cond := .code yX2_beyond cX2_beyond 5 (some .int) :: ([.fieldLink RX2 15 "MirrorShares$Room" "columns" "I", .fieldLink RX2 19 "MirrorShares$Room" "rows" "I"] ++ wsX20)
def wsX0_endOf_r1 : List Cond := [Cond.methodLink RX0 85 yX2_kindAt, Cond.instanceMethod yX2_kindAt, Cond.selects RX2 yX2_kindAt yX2_kindAt, Cond.initialized RX2, Cond.code yX2_kindAt cX2_kindAt 2 (some .int), Cond.fieldLink RX2 9 "MirrorShares$Room" "kinds" "[I", Cond.methodLink RX2 35 yX2_cells, Cond.instanceMethod yX2_cells, Cond.selects RX2 yX2_cells yX2_cells, Cond.code yX2_cells cX2_cells 1 (some .int), Cond.fieldLink RX2 15 "MirrorShares$Room" "columns" "I", Cond.fieldLink RX2 19 "MirrorShares$Room" "rows" "I", Cond.static yX5_isHalf, Cond.initialized RX5, Cond.code yX5_isHalf cX5_isHalf 1 (some .boolean), Cond.static yX5_turnedBy, Cond.code yX5_turnedBy cX5_turnedBy 3 (some .int), Cond.static yX5_letsOn, Cond.code yX5_letsOn cX5_letsOn 1 (some .boolean), Cond.methodLink RX5 209 yX5_isHalf, Cond.static yX5_turnsBeam, Cond.code yX5_turnsBeam cX5_turnsBeam 1 (some .boolean), Cond.methodLink RX0 92 yX2_beyond, Cond.instanceMethod yX2_beyond]
def wsX0_endOf_r2 : List Cond := [Cond.selects RX2 yX2_beyond yX2_beyond, Cond.code yX2_beyond cX2_beyond 5 (some .int)]
def wsX0_endOf : List Cond := .code yX0_endOf cX0_endOf 8 (some .int) :: ((wsX0_endOf_r1 ++ wsX0_endOf_r2) ++ wsX20)
def wsJ7_fill_53178 : List Cond := .code yJ7_fill_53178 cJ7_fill_53178 4 none :: ([])
def wsX0_noteSplit : List Cond := .code yX0_noteSplit cX0_noteSplit 2 none :: ([.fieldLink RX0 30 "MirrorShares$Beam" "splits" "I", .fieldLink RX0 15 "MirrorShares$Beam" "splitNumber" "[I", .fieldLink RX0 11 "MirrorShares$Beam" "splitPlace" "[I"] ++ wsX00)
def wsX0_endBeyond_r1 : List Cond := [Cond.methodLink RX0 92 yX2_beyond, Cond.instanceMethod yX2_beyond, Cond.selects RX2 yX2_beyond yX2_beyond, Cond.initialized RX2, Cond.code yX2_beyond cX2_beyond 5 (some .int), Cond.fieldLink RX2 15 "MirrorShares$Room" "columns" "I", Cond.fieldLink RX2 19 "MirrorShares$Room" "rows" "I", Cond.methodLink RX0 55 yX0_endOf, Cond.static yX0_endOf, Cond.initialized RX0, Cond.code yX0_endOf cX0_endOf 8 (some .int), Cond.methodLink RX0 85 yX2_kindAt, Cond.instanceMethod yX2_kindAt, Cond.selects RX2 yX2_kindAt yX2_kindAt, Cond.code yX2_kindAt cX2_kindAt 2 (some .int), Cond.fieldLink RX2 9 "MirrorShares$Room" "kinds" "[I", Cond.methodLink RX2 35 yX2_cells, Cond.instanceMethod yX2_cells, Cond.selects RX2 yX2_cells yX2_cells, Cond.code yX2_cells cX2_cells 1 (some .int), Cond.static yX5_isHalf, Cond.initialized RX5, Cond.code yX5_isHalf cX5_isHalf 1 (some .boolean), Cond.static yX5_turnedBy]
def wsX0_endBeyond_r2 : List Cond := [Cond.code yX5_turnedBy cX5_turnedBy 3 (some .int), Cond.static yX5_letsOn, Cond.code yX5_letsOn cX5_letsOn 1 (some .boolean), Cond.methodLink RX5 209 yX5_isHalf, Cond.static yX5_turnsBeam, Cond.code yX5_turnsBeam cX5_turnsBeam 1 (some .boolean)]
def wsX0_endBeyond : List Cond := .code yX0_endBeyond cX0_endBeyond 4 (some .int) :: ((wsX0_endBeyond_r1 ++ wsX0_endBeyond_r2) ++ wsX20)
def wsX0_findSplits_r1 : List Cond := [Cond.fieldLink RX0 15 "MirrorShares$Beam" "splitNumber" "[I", Cond.fieldLink RX0 30 "MirrorShares$Beam" "splits" "I", Cond.fieldLink RX0 11 "MirrorShares$Beam" "splitPlace" "[I", Cond.fieldLink RX0 18 "MirrorShares$Beam" "rayEnd" "[I", Cond.methodLink RX0 73 yJ7_fill_53178, Cond.static yJ7_fill_53178, Cond.initialized RJ7, Cond.code yJ7_fill_53178 cJ7_fill_53178 4 none, Cond.methodLink RX0 79 yX0_noteSplit, Cond.instanceMethod yX0_noteSplit, Cond.selects RX0 yX0_noteSplit yX0_noteSplit, Cond.initialized RX0, Cond.code yX0_noteSplit cX0_noteSplit 2 none, Cond.methodLink RX0 82 yX0_endBeyond, Cond.static yX0_endBeyond, Cond.code yX0_endBeyond cX0_endBeyond 4 (some .int), Cond.methodLink RX0 92 yX2_beyond, Cond.instanceMethod yX2_beyond, Cond.selects RX2 yX2_beyond yX2_beyond, Cond.initialized RX2, Cond.code yX2_beyond cX2_beyond 5 (some .int), Cond.fieldLink RX2 15 "MirrorShares$Room" "columns" "I", Cond.fieldLink RX2 19 "MirrorShares$Room" "rows" "I", Cond.methodLink RX0 55 yX0_endOf]
def wsX0_findSplits_r2 : List Cond := [Cond.static yX0_endOf, Cond.code yX0_endOf cX0_endOf 8 (some .int), Cond.methodLink RX0 85 yX2_kindAt, Cond.instanceMethod yX2_kindAt, Cond.selects RX2 yX2_kindAt yX2_kindAt, Cond.code yX2_kindAt cX2_kindAt 2 (some .int), Cond.fieldLink RX2 9 "MirrorShares$Room" "kinds" "[I", Cond.methodLink RX2 35 yX2_cells, Cond.instanceMethod yX2_cells, Cond.selects RX2 yX2_cells yX2_cells, Cond.code yX2_cells cX2_cells 1 (some .int), Cond.static yX5_isHalf, Cond.initialized RX5, Cond.code yX5_isHalf cX5_isHalf 1 (some .boolean), Cond.static yX5_turnedBy, Cond.code yX5_turnedBy cX5_turnedBy 3 (some .int), Cond.static yX5_letsOn, Cond.code yX5_letsOn cX5_letsOn 1 (some .boolean), Cond.methodLink RX5 209 yX5_isHalf, Cond.static yX5_turnsBeam, Cond.code yX5_turnsBeam cX5_turnsBeam 1 (some .boolean)]
def wsX0_findSplits : List Cond := .code yX0_findSplits cX0_findSplits 6 none :: ((wsX0_findSplits_r1 ++ wsX0_findSplits_r2) ++ wsX00 ++ wsX20)
def wsJ7_fill_d0a16 : List Cond := .code yJ7_fill_d0a16 cJ7_fill_d0a16 5 none :: ([])
def wsX0_setRows : List Cond := .code yX0_setRows cX0_setRows 4 none :: ([.fieldLink RX0 30 "MirrorShares$Beam" "splits" "I", .fieldLink RX0 23 "MirrorShares$Beam" "rows" "[[J", .constantLong RX0 108 (2), .fieldLink RX0 18 "MirrorShares$Beam" "rayEnd" "[I", .fieldLink RX0 15 "MirrorShares$Beam" "splitNumber" "[I", .methodLink RX0 105 yJ7_fill_d0a16, .static yJ7_fill_d0a16, .initialized RJ7, .code yJ7_fill_d0a16 cJ7_fill_d0a16 5 none] ++ wsX00)
def wsX0_clearColumn : List Cond := .code yX0_clearColumn cX0_clearColumn 7 none :: ([.fieldLink RX0 30 "MirrorShares$Beam" "splits" "I", .fieldLink RX0 34 "MirrorShares$Beam" "whole" "J"] ++ wsX00)
def wsX0_solveRows : List Cond := .code yX0_solveRows cX0_solveRows 5 none :: ([.fieldLink RX0 34 "MirrorShares$Beam" "whole" "J", .fieldLink RX0 30 "MirrorShares$Beam" "splits" "I", .fieldLink RX0 23 "MirrorShares$Beam" "rows" "[[J", .methodLink RX0 110 yX0_clearColumn, .instanceMethod yX0_clearColumn, .selects RX0 yX0_clearColumn yX0_clearColumn, .initialized RX0, .code yX0_clearColumn cX0_clearColumn 7 none] ++ wsX00)
def wsX0_addPart : List Cond := .code yX0_addPart cX0_addPart 4 none :: ([.fieldLink RX0 26 "MirrorShares$Beam" "parts" "[J"] ++ wsX00)
def wsX0_addParts : List Cond := .code yX0_addParts cX0_addParts 3 none :: ([.fieldLink RX0 26 "MirrorShares$Beam" "parts" "[J", .fieldLink RX0 34 "MirrorShares$Beam" "whole" "J", .fieldLink RX0 30 "MirrorShares$Beam" "splits" "I", .fieldLink RX0 18 "MirrorShares$Beam" "rayEnd" "[I", .fieldLink RX0 23 "MirrorShares$Beam" "rows" "[[J", .methodLink RX0 105 yJ7_fill_d0a16, .static yJ7_fill_d0a16, .initialized RJ7, .code yJ7_fill_d0a16 cJ7_fill_d0a16 5 none, .methodLink RX0 114 yX0_addPart, .instanceMethod yX0_addPart, .selects RX0 yX0_addPart yX0_addPart, .initialized RX0, .code yX0_addPart cX0_addPart 4 none] ++ wsX00)
def wsX0_shine_r1 : List Cond := [Cond.methodLink RX0 46 yX2_portCell, Cond.instanceMethod yX2_portCell, Cond.selects RX2 yX2_portCell yX2_portCell, Cond.initialized RX2, Cond.code yX2_portCell cX2_portCell 2 (some .int), Cond.fieldLink RX2 15 "MirrorShares$Room" "columns" "I", Cond.fieldLink RX2 19 "MirrorShares$Room" "rows" "I", Cond.methodLink RX2 46 yX2_portDirection, Cond.instanceMethod yX2_portDirection, Cond.selects RX2 yX2_portDirection yX2_portDirection, Cond.code yX2_portDirection cX2_portDirection 2 (some .int), Cond.methodLink RX0 52 yX2_portDirection, Cond.methodLink RX0 55 yX0_endOf, Cond.static yX0_endOf, Cond.initialized RX0, Cond.code yX0_endOf cX0_endOf 8 (some .int), Cond.methodLink RX0 85 yX2_kindAt, Cond.instanceMethod yX2_kindAt, Cond.selects RX2 yX2_kindAt yX2_kindAt, Cond.code yX2_kindAt cX2_kindAt 2 (some .int), Cond.fieldLink RX2 9 "MirrorShares$Room" "kinds" "[I", Cond.methodLink RX2 35 yX2_cells, Cond.instanceMethod yX2_cells, Cond.selects RX2 yX2_cells yX2_cells]
def wsX0_shine_r2 : List Cond := [Cond.code yX2_cells cX2_cells 1 (some .int), Cond.static yX5_isHalf, Cond.initialized RX5, Cond.code yX5_isHalf cX5_isHalf 1 (some .boolean), Cond.static yX5_turnedBy, Cond.code yX5_turnedBy cX5_turnedBy 3 (some .int), Cond.static yX5_letsOn, Cond.code yX5_letsOn cX5_letsOn 1 (some .boolean), Cond.methodLink RX5 209 yX5_isHalf, Cond.static yX5_turnsBeam, Cond.code yX5_turnsBeam cX5_turnsBeam 1 (some .boolean), Cond.methodLink RX0 92 yX2_beyond, Cond.instanceMethod yX2_beyond, Cond.selects RX2 yX2_beyond yX2_beyond, Cond.code yX2_beyond cX2_beyond 5 (some .int), Cond.methodLink RX0 59 yX0_findSplits, Cond.instanceMethod yX0_findSplits, Cond.selects RX0 yX0_findSplits yX0_findSplits, Cond.code yX0_findSplits cX0_findSplits 6 none, Cond.fieldLink RX0 15 "MirrorShares$Beam" "splitNumber" "[I", Cond.fieldLink RX0 30 "MirrorShares$Beam" "splits" "I", Cond.fieldLink RX0 11 "MirrorShares$Beam" "splitPlace" "[I", Cond.fieldLink RX0 18 "MirrorShares$Beam" "rayEnd" "[I", Cond.methodLink RX0 73 yJ7_fill_53178]
def wsX0_shine_r3 : List Cond := [Cond.static yJ7_fill_53178, Cond.initialized RJ7, Cond.code yJ7_fill_53178 cJ7_fill_53178 4 none, Cond.methodLink RX0 79 yX0_noteSplit, Cond.instanceMethod yX0_noteSplit, Cond.selects RX0 yX0_noteSplit yX0_noteSplit, Cond.code yX0_noteSplit cX0_noteSplit 2 none, Cond.methodLink RX0 82 yX0_endBeyond, Cond.static yX0_endBeyond, Cond.code yX0_endBeyond cX0_endBeyond 4 (some .int), Cond.methodLink RX0 63 yX0_setRows, Cond.instanceMethod yX0_setRows, Cond.selects RX0 yX0_setRows yX0_setRows, Cond.code yX0_setRows cX0_setRows 4 none, Cond.fieldLink RX0 23 "MirrorShares$Beam" "rows" "[[J", Cond.constantLong RX0 108 (2), Cond.methodLink RX0 105 yJ7_fill_d0a16, Cond.static yJ7_fill_d0a16, Cond.code yJ7_fill_d0a16 cJ7_fill_d0a16 5 none, Cond.methodLink RX0 66 yX0_solveRows, Cond.instanceMethod yX0_solveRows, Cond.selects RX0 yX0_solveRows yX0_solveRows, Cond.code yX0_solveRows cX0_solveRows 5 none, Cond.fieldLink RX0 34 "MirrorShares$Beam" "whole" "J"]
def wsX0_shine_r4 : List Cond := [Cond.methodLink RX0 110 yX0_clearColumn, Cond.instanceMethod yX0_clearColumn, Cond.selects RX0 yX0_clearColumn yX0_clearColumn, Cond.code yX0_clearColumn cX0_clearColumn 7 none, Cond.methodLink RX0 69 yX0_addParts, Cond.instanceMethod yX0_addParts, Cond.selects RX0 yX0_addParts yX0_addParts, Cond.code yX0_addParts cX0_addParts 3 none, Cond.fieldLink RX0 26 "MirrorShares$Beam" "parts" "[J", Cond.methodLink RX0 114 yX0_addPart, Cond.instanceMethod yX0_addPart, Cond.selects RX0 yX0_addPart yX0_addPart, Cond.code yX0_addPart cX0_addPart 4 none]
def wsX0_shine : List Cond := .code yX0_shine cX0_shine 4 none :: ((wsX0_shine_r1 ++ (wsX0_shine_r2 ++ (wsX0_shine_r3 ++ wsX0_shine_r4))) ++ wsX20 ++ wsX00)
def wsX1_init : List Cond := .code yX1_init cX1_init 1 none :: ([.methodLink RX1 3 objectInit, .instanceMethod objectInit, .code objectInit ⟨#[0xb1]⟩ 1 none, .arrayClass .int, .fieldLink RX1 9 "MirrorShares$Past" "changes" "[I", .fieldLink RX1 15 "MirrorShares$Past" "size" "I"] ++ wsX10)
def wsX1_cellOf : List Cond := .code yX1_cellOf cX1_cellOf 1 (some .int) :: ([])
def wsX1_kindOf : List Cond := .code yX1_kindOf cX1_kindOf 1 (some .int) :: ([])
def wsX1_remember : List Cond := .code yX1_remember cX1_remember 2 none :: ([.fieldLink RX1 15 "MirrorShares$Past" "size" "I", .fieldLink RX1 9 "MirrorShares$Past" "changes" "[I", .methodLink RX1 23 arraycopyName, .native arraycopyName, .static arraycopyName, .initialized "java/lang/System"] ++ wsX10)
def wsX1_rememberKind : List Cond := .code yX1_rememberKind cX1_rememberKind 3 none :: ([.methodLink RX1 19 yX1_remember, .instanceMethod yX1_remember, .selects RX1 yX1_remember yX1_remember, .initialized RX1, .code yX1_remember cX1_remember 2 none, .fieldLink RX1 15 "MirrorShares$Past" "size" "I", .fieldLink RX1 9 "MirrorShares$Past" "changes" "[I", .methodLink RX1 23 arraycopyName, .native arraycopyName, .static arraycopyName, .initialized "java/lang/System"] ++ wsX10)
def wsX1_rememberTurn : List Cond := .code yX1_rememberTurn cX1_rememberTurn 1 none :: ([.methodLink RX1 19 yX1_remember, .instanceMethod yX1_remember, .selects RX1 yX1_remember yX1_remember, .initialized RX1, .code yX1_remember cX1_remember 2 none, .fieldLink RX1 15 "MirrorShares$Past" "size" "I", .fieldLink RX1 9 "MirrorShares$Past" "changes" "[I", .methodLink RX1 23 arraycopyName, .native arraycopyName, .static arraycopyName, .initialized "java/lang/System"] ++ wsX10)
def wsX1_takeLatest : List Cond := .code yX1_takeLatest cX1_takeLatest 1 (some .int) :: ([.fieldLink RX1 15 "MirrorShares$Past" "size" "I", .fieldLink RX1 9 "MirrorShares$Past" "changes" "[I"] ++ wsX10)
def wsX1_forget : List Cond := .code yX1_forget cX1_forget 1 none :: ([.fieldLink RX1 15 "MirrorShares$Past" "size" "I"] ++ wsX10)
def wsX2_init : List Cond := .code yX2_init cX2_init 1 none :: ([.methodLink RX2 3 objectInit, .instanceMethod objectInit, .code objectInit ⟨#[0xb1]⟩ 1 none, .arrayClass .int, .fieldLink RX2 9 "MirrorShares$Room" "kinds" "[I", .fieldLink RX2 15 "MirrorShares$Room" "columns" "I", .fieldLink RX2 19 "MirrorShares$Room" "rows" "I", .methodLink RX2 25 arraycopyName, .native arraycopyName, .static arraycopyName, .initialized "java/lang/System"] ++ wsX20)
def wsX2_ports : List Cond := .code yX2_ports cX2_ports 1 (some .int) :: ([.fieldLink RX2 15 "MirrorShares$Room" "columns" "I", .fieldLink RX2 19 "MirrorShares$Room" "rows" "I"] ++ wsX20)
def wsX2_hasPort : List Cond := .code yX2_hasPort cX2_hasPort 2 (some .boolean) :: ([.methodLink RX2 31 yX2_ports, .instanceMethod yX2_ports, .selects RX2 yX2_ports yX2_ports, .initialized RX2, .code yX2_ports cX2_ports 1 (some .int), .fieldLink RX2 15 "MirrorShares$Room" "columns" "I", .fieldLink RX2 19 "MirrorShares$Room" "rows" "I"] ++ wsX20)
def wsX2_tell : List Cond := .code yX2_tell cX2_tell 3 none :: ([.fieldLink RX2 9 "MirrorShares$Room" "kinds" "[I", .methodLink RX2 35 yX2_cells, .instanceMethod yX2_cells, .selects RX2 yX2_cells yX2_cells, .initialized RX2, .code yX2_cells cX2_cells 1 (some .int), .fieldLink RX2 15 "MirrorShares$Room" "columns" "I", .fieldLink RX2 19 "MirrorShares$Room" "rows" "I"] ++ wsX20)
def wsX2_countKinds : List Cond := .code yX2_countKinds cX2_countKinds 6 (some .int) :: ([.methodLink RX2 35 yX2_cells, .instanceMethod yX2_cells, .selects RX2 yX2_cells yX2_cells, .initialized RX2, .code yX2_cells cX2_cells 1 (some .int), .fieldLink RX2 15 "MirrorShares$Room" "columns" "I", .fieldLink RX2 19 "MirrorShares$Room" "rows" "I", .methodLink RX2 38 yX2_kindAt, .instanceMethod yX2_kindAt, .selects RX2 yX2_kindAt yX2_kindAt, .code yX2_kindAt cX2_kindAt 2 (some .int), .fieldLink RX2 9 "MirrorShares$Room" "kinds" "[I"] ++ wsX20)
def wsX2_isOverfull : List Cond := .code yX2_isOverfull cX2_isOverfull 1 (some .boolean) :: ([.methodLink RX2 42 yX2_countKinds, .instanceMethod yX2_countKinds, .selects RX2 yX2_countKinds yX2_countKinds, .initialized RX2, .code yX2_countKinds cX2_countKinds 6 (some .int), .methodLink RX2 35 yX2_cells, .instanceMethod yX2_cells, .selects RX2 yX2_cells yX2_cells, .code yX2_cells cX2_cells 1 (some .int), .fieldLink RX2 15 "MirrorShares$Room" "columns" "I", .fieldLink RX2 19 "MirrorShares$Room" "rows" "I", .methodLink RX2 38 yX2_kindAt, .instanceMethod yX2_kindAt, .selects RX2 yX2_kindAt yX2_kindAt, .code yX2_kindAt cX2_kindAt 2 (some .int), .fieldLink RX2 9 "MirrorShares$Room" "kinds" "[I"] ++ wsX20)
def wsX2_doorCell : List Cond := .code yX2_doorCell cX2_doorCell 4 (some .int) :: ([.methodLink RX2 35 yX2_cells, .instanceMethod yX2_cells, .selects RX2 yX2_cells yX2_cells, .initialized RX2, .code yX2_cells cX2_cells 1 (some .int), .fieldLink RX2 15 "MirrorShares$Room" "columns" "I", .fieldLink RX2 19 "MirrorShares$Room" "rows" "I", .methodLink RX2 38 yX2_kindAt, .instanceMethod yX2_kindAt, .selects RX2 yX2_kindAt yX2_kindAt, .code yX2_kindAt cX2_kindAt 2 (some .int), .fieldLink RX2 9 "MirrorShares$Room" "kinds" "[I"] ++ wsX20)
def wsX2_become : List Cond := .code yX2_become cX2_become 2 none :: ([.fieldLink RX2 15 "MirrorShares$Room" "columns" "I", .fieldLink RX2 19 "MirrorShares$Room" "rows" "I", .fieldLink RX2 9 "MirrorShares$Room" "kinds" "[I", .methodLink RX2 25 arraycopyName, .native arraycopyName, .static arraycopyName, .initialized "java/lang/System"] ++ wsX20)
def wsX2_turnedKind : List Cond := .code yX2_turnedKind cX2_turnedKind 1 (some .int) :: ([])
def wsX2_becomeTurned : List Cond := .code yX2_becomeTurned cX2_becomeTurned 5 none :: ([.fieldLink RX2 19 "MirrorShares$Room" "rows" "I", .fieldLink RX2 15 "MirrorShares$Room" "columns" "I", .methodLink RX2 38 yX2_kindAt, .instanceMethod yX2_kindAt, .selects RX2 yX2_kindAt yX2_kindAt, .initialized RX2, .code yX2_kindAt cX2_kindAt 2 (some .int), .fieldLink RX2 9 "MirrorShares$Room" "kinds" "[I", .methodLink RX2 35 yX2_cells, .instanceMethod yX2_cells, .selects RX2 yX2_cells yX2_cells, .code yX2_cells cX2_cells 1 (some .int), .methodLink RX2 49 yX2_turnedKind, .static yX2_turnedKind, .code yX2_turnedKind cX2_turnedKind 1 (some .int), .methodLink RX2 52 yX2_tell, .instanceMethod yX2_tell, .selects RX2 yX2_tell yX2_tell, .code yX2_tell cX2_tell 3 none] ++ wsX20)
def wsX2_empty : List Cond := .code yX2_empty cX2_empty 1 none :: ([.fieldLink RX2 15 "MirrorShares$Room" "columns" "I", .fieldLink RX2 19 "MirrorShares$Room" "rows" "I"] ++ wsX20)
def wsX2_addRow : List Cond := .code yX2_addRow cX2_addRow 3 (some .boolean) :: ([.fieldLink RX2 19 "MirrorShares$Room" "rows" "I", .fieldLink RX2 15 "MirrorShares$Room" "columns" "I"] ++ wsX20)
def wsX3_init : List Cond := .code yX3_init cX3_init 1 none :: ([.methodLink RX3 3 objectInit, .instanceMethod objectInit, .code objectInit ⟨#[0xb1]⟩ 1 none, .arrayClass .int, .fieldLink RX3 9 "MirrorShares$Told" "letters" "[I", .fieldLink RX3 15 "MirrorShares$Told" "length" "I"] ++ wsX30)
def wsX3_append : List Cond := .code yX3_append cX3_append 2 (some .int) :: ([.fieldLink RX3 15 "MirrorShares$Told" "length" "I", .fieldLink RX3 9 "MirrorShares$Told" "letters" "[I"] ++ wsX30)
def wsX3_clear : List Cond := .code yX3_clear cX3_clear 2 (some .int) :: ([.fieldLink RX3 15 "MirrorShares$Told" "length" "I"] ++ wsX30)
def wsX3_letterAt : List Cond := .code yX3_letterAt cX3_letterAt 2 (some .int) :: ([.fieldLink RX3 15 "MirrorShares$Told" "length" "I", .fieldLink RX3 9 "MirrorShares$Told" "letters" "[I"] ++ wsX30)
def wsX3_endOfItem : List Cond := .code yX3_endOfItem cX3_endOfItem 3 (some .int) :: ([.fieldLink RX3 15 "MirrorShares$Told" "length" "I", .methodLink RX3 32 yX3_letterAt, .instanceMethod yX3_letterAt, .selects RX3 yX3_letterAt yX3_letterAt, .initialized RX3, .code yX3_letterAt cX3_letterAt 2 (some .int), .fieldLink RX3 9 "MirrorShares$Told" "letters" "[I"] ++ wsX30)
def wsJ0_isLatin1_aae02 : List Cond := .code yJ0_isLatin1_aae02 cJ0_isLatin1_aae02 1 (some .boolean) :: ([.fieldLink RJ0 38 "java/lang/String" "COMPACT_STRINGS" "Z", .fieldLink RJ0 15 "java/lang/String" "coder" "B"])
def wsJ0_coder_7d493 : List Cond := .code yJ0_coder_7d493 cJ0_coder_7d493 1 (some .byte) :: ([.fieldLink RJ0 38 "java/lang/String" "COMPACT_STRINGS" "Z", .fieldLink RJ0 15 "java/lang/String" "coder" "B"])
def wsJ0_length_8abf5 : List Cond := .code yJ0_length_8abf5 cJ0_length_8abf5 1 (some .int) :: ([.fieldLink RJ0 9 "java/lang/String" "value" "[B", .methodLink RJ0 335 yJ0_coder_7d493, .instanceMethod yJ0_coder_7d493, .selects RJ0 yJ0_coder_7d493 yJ0_coder_7d493, .initialized RJ0, .code yJ0_coder_7d493 cJ0_coder_7d493 1 (some .byte), .fieldLink RJ0 38 "java/lang/String" "COMPACT_STRINGS" "Z", .fieldLink RJ0 15 "java/lang/String" "coder" "B"])
def wsJ1_canEncode_9a6ad : List Cond := .code yJ1_canEncode_9a6ad cJ1_canEncode_9a6ad 1 (some .boolean) :: ([])
def wsJ1_indexOfChar_4cfef : List Cond := .code yJ1_indexOfChar_4cfef cJ1_indexOfChar_4cfef 6 (some .int) :: ([])
def wsJ1_indexOf_4cfef : List Cond := .code yJ1_indexOf_4cfef cJ1_indexOf_4cfef 4 (some .int) :: ([.methodLink RJ1 92 Lib.Math.max.name, .static Lib.Math.max.name, .initialized "java/lang/Math", .code Lib.Math.max.name Lib.Math.max.code 2 (some .int), .methodLink RJ1 38 Lib.Math.min.name, .static Lib.Math.min.name, .code Lib.Math.min.name Lib.Math.min.code 2 (some .int), .methodLink RJ1 88 yJ1_canEncode_9a6ad, .static yJ1_canEncode_9a6ad, .initialized RJ1, .code yJ1_canEncode_9a6ad cJ1_canEncode_9a6ad 1 (some .boolean), .methodLink RJ1 95 yJ1_indexOfChar_4cfef, .static yJ1_indexOfChar_4cfef, .code yJ1_indexOfChar_4cfef cJ1_indexOfChar_4cfef 6 (some .int)])
def wsJ2_length_9d52b : List Cond := .code yJ2_length_9d52b cJ2_length_9d52b 1 (some .int) :: ([])
def wsJ3_checkFromToIndex_8c36e : List Cond := .code yJ3_checkFromToIndex_8c36e cJ3_checkFromToIndex_8c36e 4 (some .int) :: ([])
def wsJ0_checkBoundsBeginEnd_23922 : List Cond := .code yJ0_checkBoundsBeginEnd_23922 cJ0_checkBoundsBeginEnd_23922 3 none :: ([.fieldLink RJ0 1053 "jdk/internal/util/Preconditions" "SIOOBE_FORMATTER" "Ljava/util/function/BiFunction;", .methodLink RJ0 1062 yJ3_checkFromToIndex_8c36e, .static yJ3_checkFromToIndex_8c36e, .initialized RJ3, .code yJ3_checkFromToIndex_8c36e cJ3_checkFromToIndex_8c36e 4 (some .int)])
def wsJ2_checkBoundsBeginEnd_d044e : List Cond := .code yJ2_checkBoundsBeginEnd_d044e cJ2_checkBoundsBeginEnd_d044e 3 none :: ([.methodLink RJ2 48 yJ2_length_9d52b, .static yJ2_length_9d52b, .initialized RJ2, .code yJ2_length_9d52b cJ2_length_9d52b 1 (some .int), .methodLink RJ2 241 yJ0_checkBoundsBeginEnd_23922, .static yJ0_checkBoundsBeginEnd_23922, .initialized RJ0, .code yJ0_checkBoundsBeginEnd_23922 cJ0_checkBoundsBeginEnd_23922 3 none, .fieldLink RJ0 1053 "jdk/internal/util/Preconditions" "SIOOBE_FORMATTER" "Ljava/util/function/BiFunction;", .methodLink RJ0 1062 yJ3_checkFromToIndex_8c36e, .static yJ3_checkFromToIndex_8c36e, .initialized RJ3, .code yJ3_checkFromToIndex_8c36e cJ3_checkFromToIndex_8c36e 4 (some .int)])
def wsJ2_getChar_3b067 : List Cond := .code yJ2_getChar_3b067 cJ2_getChar_3b067 2 (some .char) :: ([.fieldLink RJ2 44 "java/lang/StringUTF16" "$assertionsDisabled" "Z", .fieldLink RJ2 59 "java/lang/StringUTF16" "HI_BYTE_SHIFT" "I", .fieldLink RJ2 63 "java/lang/StringUTF16" "LO_BYTE_SHIFT" "I", .methodLink RJ2 48 yJ2_length_9d52b, .static yJ2_length_9d52b, .initialized RJ2, .code yJ2_length_9d52b cJ2_length_9d52b 1 (some .int)])
def wsJ2_indexOfCharUnsafe_4cfef : List Cond := .code yJ2_indexOfCharUnsafe_4cfef cJ2_indexOfCharUnsafe_4cfef 5 (some .int) :: ([.methodLink RJ2 71 yJ2_getChar_3b067, .static yJ2_getChar_3b067, .initialized RJ2, .code yJ2_getChar_3b067 cJ2_getChar_3b067 2 (some .char), .fieldLink RJ2 44 "java/lang/StringUTF16" "$assertionsDisabled" "Z", .fieldLink RJ2 59 "java/lang/StringUTF16" "HI_BYTE_SHIFT" "I", .fieldLink RJ2 63 "java/lang/StringUTF16" "LO_BYTE_SHIFT" "I", .methodLink RJ2 48 yJ2_length_9d52b, .static yJ2_length_9d52b, .code yJ2_length_9d52b cJ2_length_9d52b 1 (some .int)])
def wsJ2_indexOfChar_4cfef_r1 : List Cond := [Cond.methodLink RJ2 96 yJ2_checkBoundsBeginEnd_d044e, Cond.static yJ2_checkBoundsBeginEnd_d044e, Cond.initialized RJ2, Cond.code yJ2_checkBoundsBeginEnd_d044e cJ2_checkBoundsBeginEnd_d044e 3 none, Cond.methodLink RJ2 48 yJ2_length_9d52b, Cond.static yJ2_length_9d52b, Cond.code yJ2_length_9d52b cJ2_length_9d52b 1 (some .int), Cond.methodLink RJ2 241 yJ0_checkBoundsBeginEnd_23922, Cond.static yJ0_checkBoundsBeginEnd_23922, Cond.initialized RJ0, Cond.code yJ0_checkBoundsBeginEnd_23922 cJ0_checkBoundsBeginEnd_23922 3 none, Cond.fieldLink RJ0 1053 "jdk/internal/util/Preconditions" "SIOOBE_FORMATTER" "Ljava/util/function/BiFunction;", Cond.methodLink RJ0 1062 yJ3_checkFromToIndex_8c36e, Cond.static yJ3_checkFromToIndex_8c36e, Cond.initialized RJ3, Cond.code yJ3_checkFromToIndex_8c36e cJ3_checkFromToIndex_8c36e 4 (some .int), Cond.methodLink RJ2 244 yJ2_indexOfCharUnsafe_4cfef, Cond.static yJ2_indexOfCharUnsafe_4cfef, Cond.code yJ2_indexOfCharUnsafe_4cfef cJ2_indexOfCharUnsafe_4cfef 5 (some .int), Cond.methodLink RJ2 71 yJ2_getChar_3b067, Cond.static yJ2_getChar_3b067, Cond.code yJ2_getChar_3b067 cJ2_getChar_3b067 2 (some .char), Cond.fieldLink RJ2 44 "java/lang/StringUTF16" "$assertionsDisabled" "Z", Cond.fieldLink RJ2 59 "java/lang/StringUTF16" "HI_BYTE_SHIFT" "I"]
def wsJ2_indexOfChar_4cfef_r2 : List Cond := [Cond.fieldLink RJ2 63 "java/lang/StringUTF16" "LO_BYTE_SHIFT" "I"]
def wsJ2_indexOfChar_4cfef : List Cond := .code yJ2_indexOfChar_4cfef cJ2_indexOfChar_4cfef 4 (some .int) :: ((wsJ2_indexOfChar_4cfef_r1 ++ wsJ2_indexOfChar_4cfef_r2))
def wsJ11_isValidCodePoint_9a6ad : List Cond := .code yJ11_isValidCodePoint_9a6ad cJ11_isValidCodePoint_9a6ad 2 (some .boolean) :: ([])
def wsJ11_highSurrogate_5068e : List Cond := .code yJ11_highSurrogate_5068e cJ11_highSurrogate_5068e 1 (some .char) :: ([.constant RJ11 110 (55232)])
def wsJ11_lowSurrogate_5068e : List Cond := .code yJ11_lowSurrogate_5068e cJ11_lowSurrogate_5068e 1 (some .char) :: ([.constant RJ11 76 (56320)])
def wsJ2_indexOfSupplementary_4cfef_r1 : List Cond := [Cond.methodLink RJ2 164 yJ11_isValidCodePoint_9a6ad, Cond.static yJ11_isValidCodePoint_9a6ad, Cond.initialized RJ11, Cond.code yJ11_isValidCodePoint_9a6ad cJ11_isValidCodePoint_9a6ad 2 (some .boolean), Cond.methodLink RJ2 157 yJ11_highSurrogate_5068e, Cond.static yJ11_highSurrogate_5068e, Cond.code yJ11_highSurrogate_5068e cJ11_highSurrogate_5068e 1 (some .char), Cond.constant RJ11 110 (55232), Cond.methodLink RJ2 161 yJ11_lowSurrogate_5068e, Cond.static yJ11_lowSurrogate_5068e, Cond.code yJ11_lowSurrogate_5068e cJ11_lowSurrogate_5068e 1 (some .char), Cond.constant RJ11 76 (56320), Cond.methodLink RJ2 96 yJ2_checkBoundsBeginEnd_d044e, Cond.static yJ2_checkBoundsBeginEnd_d044e, Cond.initialized RJ2, Cond.code yJ2_checkBoundsBeginEnd_d044e cJ2_checkBoundsBeginEnd_d044e 3 none, Cond.methodLink RJ2 48 yJ2_length_9d52b, Cond.static yJ2_length_9d52b, Cond.code yJ2_length_9d52b cJ2_length_9d52b 1 (some .int), Cond.methodLink RJ2 241 yJ0_checkBoundsBeginEnd_23922, Cond.static yJ0_checkBoundsBeginEnd_23922, Cond.initialized RJ0, Cond.code yJ0_checkBoundsBeginEnd_23922 cJ0_checkBoundsBeginEnd_23922 3 none, Cond.fieldLink RJ0 1053 "jdk/internal/util/Preconditions" "SIOOBE_FORMATTER" "Ljava/util/function/BiFunction;"]
def wsJ2_indexOfSupplementary_4cfef_r2 : List Cond := [Cond.methodLink RJ0 1062 yJ3_checkFromToIndex_8c36e, Cond.static yJ3_checkFromToIndex_8c36e, Cond.initialized RJ3, Cond.code yJ3_checkFromToIndex_8c36e cJ3_checkFromToIndex_8c36e 4 (some .int), Cond.methodLink RJ2 71 yJ2_getChar_3b067, Cond.static yJ2_getChar_3b067, Cond.code yJ2_getChar_3b067 cJ2_getChar_3b067 2 (some .char), Cond.fieldLink RJ2 44 "java/lang/StringUTF16" "$assertionsDisabled" "Z", Cond.fieldLink RJ2 59 "java/lang/StringUTF16" "HI_BYTE_SHIFT" "I", Cond.fieldLink RJ2 63 "java/lang/StringUTF16" "LO_BYTE_SHIFT" "I"]
def wsJ2_indexOfSupplementary_4cfef : List Cond := .code yJ2_indexOfSupplementary_4cfef cJ2_indexOfSupplementary_4cfef 7 (some .int) :: ((wsJ2_indexOfSupplementary_4cfef_r1 ++ wsJ2_indexOfSupplementary_4cfef_r2))
def wsJ2_indexOf_4cfef_r1 : List Cond := [Cond.methodLink RJ2 224 Lib.Math.max.name, Cond.static Lib.Math.max.name, Cond.initialized "java/lang/Math", Cond.code Lib.Math.max.name Lib.Math.max.code 2 (some .int), Cond.methodLink RJ2 183 Lib.Math.min.name, Cond.static Lib.Math.min.name, Cond.code Lib.Math.min.name Lib.Math.min.code 2 (some .int), Cond.constant RJ2 227 (65536), Cond.methodLink RJ2 228 yJ2_indexOfChar_4cfef, Cond.static yJ2_indexOfChar_4cfef, Cond.initialized RJ2, Cond.code yJ2_indexOfChar_4cfef cJ2_indexOfChar_4cfef 4 (some .int), Cond.methodLink RJ2 96 yJ2_checkBoundsBeginEnd_d044e, Cond.static yJ2_checkBoundsBeginEnd_d044e, Cond.code yJ2_checkBoundsBeginEnd_d044e cJ2_checkBoundsBeginEnd_d044e 3 none, Cond.methodLink RJ2 48 yJ2_length_9d52b, Cond.static yJ2_length_9d52b, Cond.code yJ2_length_9d52b cJ2_length_9d52b 1 (some .int), Cond.methodLink RJ2 241 yJ0_checkBoundsBeginEnd_23922, Cond.static yJ0_checkBoundsBeginEnd_23922, Cond.initialized RJ0, Cond.code yJ0_checkBoundsBeginEnd_23922 cJ0_checkBoundsBeginEnd_23922 3 none, Cond.fieldLink RJ0 1053 "jdk/internal/util/Preconditions" "SIOOBE_FORMATTER" "Ljava/util/function/BiFunction;", Cond.methodLink RJ0 1062 yJ3_checkFromToIndex_8c36e]
def wsJ2_indexOf_4cfef_r2 : List Cond := [Cond.static yJ3_checkFromToIndex_8c36e, Cond.initialized RJ3, Cond.code yJ3_checkFromToIndex_8c36e cJ3_checkFromToIndex_8c36e 4 (some .int), Cond.methodLink RJ2 244 yJ2_indexOfCharUnsafe_4cfef, Cond.static yJ2_indexOfCharUnsafe_4cfef, Cond.code yJ2_indexOfCharUnsafe_4cfef cJ2_indexOfCharUnsafe_4cfef 5 (some .int), Cond.methodLink RJ2 71 yJ2_getChar_3b067, Cond.static yJ2_getChar_3b067, Cond.code yJ2_getChar_3b067 cJ2_getChar_3b067 2 (some .char), Cond.fieldLink RJ2 44 "java/lang/StringUTF16" "$assertionsDisabled" "Z", Cond.fieldLink RJ2 59 "java/lang/StringUTF16" "HI_BYTE_SHIFT" "I", Cond.fieldLink RJ2 63 "java/lang/StringUTF16" "LO_BYTE_SHIFT" "I", Cond.methodLink RJ2 232 yJ2_indexOfSupplementary_4cfef, Cond.static yJ2_indexOfSupplementary_4cfef, Cond.code yJ2_indexOfSupplementary_4cfef cJ2_indexOfSupplementary_4cfef 7 (some .int), Cond.methodLink RJ2 164 yJ11_isValidCodePoint_9a6ad, Cond.static yJ11_isValidCodePoint_9a6ad, Cond.initialized RJ11, Cond.code yJ11_isValidCodePoint_9a6ad cJ11_isValidCodePoint_9a6ad 2 (some .boolean), Cond.methodLink RJ2 157 yJ11_highSurrogate_5068e, Cond.static yJ11_highSurrogate_5068e, Cond.code yJ11_highSurrogate_5068e cJ11_highSurrogate_5068e 1 (some .char), Cond.constant RJ11 110 (55232), Cond.methodLink RJ2 161 yJ11_lowSurrogate_5068e]
def wsJ2_indexOf_4cfef_r3 : List Cond := [Cond.static yJ11_lowSurrogate_5068e, Cond.code yJ11_lowSurrogate_5068e cJ11_lowSurrogate_5068e 1 (some .char), Cond.constant RJ11 76 (56320)]
def wsJ2_indexOf_4cfef : List Cond := .code yJ2_indexOf_4cfef cJ2_indexOf_4cfef 4 (some .int) :: ((wsJ2_indexOf_4cfef_r1 ++ (wsJ2_indexOf_4cfef_r2 ++ wsJ2_indexOf_4cfef_r3)))
def wsJ0_indexOf_7cf53_r1 : List Cond := [Cond.fieldLink RJ0 9 "java/lang/String" "value" "[B", Cond.methodLink RJ0 492 yJ0_isLatin1_aae02, Cond.instanceMethod yJ0_isLatin1_aae02, Cond.selects RJ0 yJ0_isLatin1_aae02 yJ0_isLatin1_aae02, Cond.initialized RJ0, Cond.code yJ0_isLatin1_aae02 cJ0_isLatin1_aae02 1 (some .boolean), Cond.fieldLink RJ0 38 "java/lang/String" "COMPACT_STRINGS" "Z", Cond.fieldLink RJ0 15 "java/lang/String" "coder" "B", Cond.methodLink RJ0 505 yJ0_length_8abf5, Cond.instanceMethod yJ0_length_8abf5, Cond.selects RJ0 yJ0_length_8abf5 yJ0_length_8abf5, Cond.code yJ0_length_8abf5 cJ0_length_8abf5 1 (some .int), Cond.methodLink RJ0 335 yJ0_coder_7d493, Cond.instanceMethod yJ0_coder_7d493, Cond.selects RJ0 yJ0_coder_7d493 yJ0_coder_7d493, Cond.code yJ0_coder_7d493 cJ0_coder_7d493 1 (some .byte), Cond.methodLink RJ0 637 yJ1_indexOf_4cfef, Cond.static yJ1_indexOf_4cfef, Cond.initialized RJ1, Cond.code yJ1_indexOf_4cfef cJ1_indexOf_4cfef 4 (some .int), Cond.methodLink RJ1 92 Lib.Math.max.name, Cond.static Lib.Math.max.name, Cond.initialized "java/lang/Math", Cond.code Lib.Math.max.name Lib.Math.max.code 2 (some .int)]
def wsJ0_indexOf_7cf53_r2 : List Cond := [Cond.methodLink RJ1 38 Lib.Math.min.name, Cond.static Lib.Math.min.name, Cond.code Lib.Math.min.name Lib.Math.min.code 2 (some .int), Cond.methodLink RJ1 88 yJ1_canEncode_9a6ad, Cond.static yJ1_canEncode_9a6ad, Cond.code yJ1_canEncode_9a6ad cJ1_canEncode_9a6ad 1 (some .boolean), Cond.methodLink RJ1 95 yJ1_indexOfChar_4cfef, Cond.static yJ1_indexOfChar_4cfef, Cond.code yJ1_indexOfChar_4cfef cJ1_indexOfChar_4cfef 6 (some .int), Cond.methodLink RJ0 640 yJ2_indexOf_4cfef, Cond.static yJ2_indexOf_4cfef, Cond.initialized RJ2, Cond.code yJ2_indexOf_4cfef cJ2_indexOf_4cfef 4 (some .int), Cond.methodLink RJ2 224 Lib.Math.max.name, Cond.methodLink RJ2 183 Lib.Math.min.name, Cond.constant RJ2 227 (65536), Cond.methodLink RJ2 228 yJ2_indexOfChar_4cfef, Cond.static yJ2_indexOfChar_4cfef, Cond.code yJ2_indexOfChar_4cfef cJ2_indexOfChar_4cfef 4 (some .int), Cond.methodLink RJ2 96 yJ2_checkBoundsBeginEnd_d044e, Cond.static yJ2_checkBoundsBeginEnd_d044e, Cond.code yJ2_checkBoundsBeginEnd_d044e cJ2_checkBoundsBeginEnd_d044e 3 none, Cond.methodLink RJ2 48 yJ2_length_9d52b, Cond.static yJ2_length_9d52b]
def wsJ0_indexOf_7cf53_r3 : List Cond := [Cond.code yJ2_length_9d52b cJ2_length_9d52b 1 (some .int), Cond.methodLink RJ2 241 yJ0_checkBoundsBeginEnd_23922, Cond.static yJ0_checkBoundsBeginEnd_23922, Cond.code yJ0_checkBoundsBeginEnd_23922 cJ0_checkBoundsBeginEnd_23922 3 none, Cond.fieldLink RJ0 1053 "jdk/internal/util/Preconditions" "SIOOBE_FORMATTER" "Ljava/util/function/BiFunction;", Cond.methodLink RJ0 1062 yJ3_checkFromToIndex_8c36e, Cond.static yJ3_checkFromToIndex_8c36e, Cond.initialized RJ3, Cond.code yJ3_checkFromToIndex_8c36e cJ3_checkFromToIndex_8c36e 4 (some .int), Cond.methodLink RJ2 244 yJ2_indexOfCharUnsafe_4cfef, Cond.static yJ2_indexOfCharUnsafe_4cfef, Cond.code yJ2_indexOfCharUnsafe_4cfef cJ2_indexOfCharUnsafe_4cfef 5 (some .int), Cond.methodLink RJ2 71 yJ2_getChar_3b067, Cond.static yJ2_getChar_3b067, Cond.code yJ2_getChar_3b067 cJ2_getChar_3b067 2 (some .char), Cond.fieldLink RJ2 44 "java/lang/StringUTF16" "$assertionsDisabled" "Z", Cond.fieldLink RJ2 59 "java/lang/StringUTF16" "HI_BYTE_SHIFT" "I", Cond.fieldLink RJ2 63 "java/lang/StringUTF16" "LO_BYTE_SHIFT" "I", Cond.methodLink RJ2 232 yJ2_indexOfSupplementary_4cfef, Cond.static yJ2_indexOfSupplementary_4cfef, Cond.code yJ2_indexOfSupplementary_4cfef cJ2_indexOfSupplementary_4cfef 7 (some .int), Cond.methodLink RJ2 164 yJ11_isValidCodePoint_9a6ad, Cond.static yJ11_isValidCodePoint_9a6ad, Cond.initialized RJ11]
def wsJ0_indexOf_7cf53_r4 : List Cond := [Cond.code yJ11_isValidCodePoint_9a6ad cJ11_isValidCodePoint_9a6ad 2 (some .boolean), Cond.methodLink RJ2 157 yJ11_highSurrogate_5068e, Cond.static yJ11_highSurrogate_5068e, Cond.code yJ11_highSurrogate_5068e cJ11_highSurrogate_5068e 1 (some .char), Cond.constant RJ11 110 (55232), Cond.methodLink RJ2 161 yJ11_lowSurrogate_5068e, Cond.static yJ11_lowSurrogate_5068e, Cond.code yJ11_lowSurrogate_5068e cJ11_lowSurrogate_5068e 1 (some .char), Cond.constant RJ11 76 (56320)]
def wsJ0_indexOf_7cf53 : List Cond := .code yJ0_indexOf_7cf53 cJ0_indexOf_7cf53 3 (some .int) :: ((wsJ0_indexOf_7cf53_r1 ++ (wsJ0_indexOf_7cf53_r2 ++ (wsJ0_indexOf_7cf53_r3 ++ wsJ0_indexOf_7cf53_r4))))
def wsJ0_indexOf_0f7a4_r1 : List Cond := [Cond.methodLink RJ0 633 yJ0_indexOf_7cf53, Cond.instanceMethod yJ0_indexOf_7cf53, Cond.selects RJ0 yJ0_indexOf_7cf53 yJ0_indexOf_7cf53, Cond.initialized RJ0, Cond.code yJ0_indexOf_7cf53 cJ0_indexOf_7cf53 3 (some .int), Cond.fieldLink RJ0 9 "java/lang/String" "value" "[B", Cond.methodLink RJ0 492 yJ0_isLatin1_aae02, Cond.instanceMethod yJ0_isLatin1_aae02, Cond.selects RJ0 yJ0_isLatin1_aae02 yJ0_isLatin1_aae02, Cond.code yJ0_isLatin1_aae02 cJ0_isLatin1_aae02 1 (some .boolean), Cond.fieldLink RJ0 38 "java/lang/String" "COMPACT_STRINGS" "Z", Cond.fieldLink RJ0 15 "java/lang/String" "coder" "B", Cond.methodLink RJ0 505 yJ0_length_8abf5, Cond.instanceMethod yJ0_length_8abf5, Cond.selects RJ0 yJ0_length_8abf5 yJ0_length_8abf5, Cond.code yJ0_length_8abf5 cJ0_length_8abf5 1 (some .int), Cond.methodLink RJ0 335 yJ0_coder_7d493, Cond.instanceMethod yJ0_coder_7d493, Cond.selects RJ0 yJ0_coder_7d493 yJ0_coder_7d493, Cond.code yJ0_coder_7d493 cJ0_coder_7d493 1 (some .byte), Cond.methodLink RJ0 637 yJ1_indexOf_4cfef, Cond.static yJ1_indexOf_4cfef, Cond.initialized RJ1, Cond.code yJ1_indexOf_4cfef cJ1_indexOf_4cfef 4 (some .int)]
def wsJ0_indexOf_0f7a4_r2 : List Cond := [Cond.methodLink RJ1 92 Lib.Math.max.name, Cond.static Lib.Math.max.name, Cond.initialized "java/lang/Math", Cond.code Lib.Math.max.name Lib.Math.max.code 2 (some .int), Cond.methodLink RJ1 38 Lib.Math.min.name, Cond.static Lib.Math.min.name, Cond.code Lib.Math.min.name Lib.Math.min.code 2 (some .int), Cond.methodLink RJ1 88 yJ1_canEncode_9a6ad, Cond.static yJ1_canEncode_9a6ad, Cond.code yJ1_canEncode_9a6ad cJ1_canEncode_9a6ad 1 (some .boolean), Cond.methodLink RJ1 95 yJ1_indexOfChar_4cfef, Cond.static yJ1_indexOfChar_4cfef, Cond.code yJ1_indexOfChar_4cfef cJ1_indexOfChar_4cfef 6 (some .int), Cond.methodLink RJ0 640 yJ2_indexOf_4cfef, Cond.static yJ2_indexOf_4cfef, Cond.initialized RJ2, Cond.code yJ2_indexOf_4cfef cJ2_indexOf_4cfef 4 (some .int), Cond.methodLink RJ2 224 Lib.Math.max.name, Cond.methodLink RJ2 183 Lib.Math.min.name, Cond.constant RJ2 227 (65536), Cond.methodLink RJ2 228 yJ2_indexOfChar_4cfef, Cond.static yJ2_indexOfChar_4cfef, Cond.code yJ2_indexOfChar_4cfef cJ2_indexOfChar_4cfef 4 (some .int), Cond.methodLink RJ2 96 yJ2_checkBoundsBeginEnd_d044e]
def wsJ0_indexOf_0f7a4_r3 : List Cond := [Cond.static yJ2_checkBoundsBeginEnd_d044e, Cond.code yJ2_checkBoundsBeginEnd_d044e cJ2_checkBoundsBeginEnd_d044e 3 none, Cond.methodLink RJ2 48 yJ2_length_9d52b, Cond.static yJ2_length_9d52b, Cond.code yJ2_length_9d52b cJ2_length_9d52b 1 (some .int), Cond.methodLink RJ2 241 yJ0_checkBoundsBeginEnd_23922, Cond.static yJ0_checkBoundsBeginEnd_23922, Cond.code yJ0_checkBoundsBeginEnd_23922 cJ0_checkBoundsBeginEnd_23922 3 none, Cond.fieldLink RJ0 1053 "jdk/internal/util/Preconditions" "SIOOBE_FORMATTER" "Ljava/util/function/BiFunction;", Cond.methodLink RJ0 1062 yJ3_checkFromToIndex_8c36e, Cond.static yJ3_checkFromToIndex_8c36e, Cond.initialized RJ3, Cond.code yJ3_checkFromToIndex_8c36e cJ3_checkFromToIndex_8c36e 4 (some .int), Cond.methodLink RJ2 244 yJ2_indexOfCharUnsafe_4cfef, Cond.static yJ2_indexOfCharUnsafe_4cfef, Cond.code yJ2_indexOfCharUnsafe_4cfef cJ2_indexOfCharUnsafe_4cfef 5 (some .int), Cond.methodLink RJ2 71 yJ2_getChar_3b067, Cond.static yJ2_getChar_3b067, Cond.code yJ2_getChar_3b067 cJ2_getChar_3b067 2 (some .char), Cond.fieldLink RJ2 44 "java/lang/StringUTF16" "$assertionsDisabled" "Z", Cond.fieldLink RJ2 59 "java/lang/StringUTF16" "HI_BYTE_SHIFT" "I", Cond.fieldLink RJ2 63 "java/lang/StringUTF16" "LO_BYTE_SHIFT" "I", Cond.methodLink RJ2 232 yJ2_indexOfSupplementary_4cfef, Cond.static yJ2_indexOfSupplementary_4cfef]
def wsJ0_indexOf_0f7a4_r4 : List Cond := [Cond.code yJ2_indexOfSupplementary_4cfef cJ2_indexOfSupplementary_4cfef 7 (some .int), Cond.methodLink RJ2 164 yJ11_isValidCodePoint_9a6ad, Cond.static yJ11_isValidCodePoint_9a6ad, Cond.initialized RJ11, Cond.code yJ11_isValidCodePoint_9a6ad cJ11_isValidCodePoint_9a6ad 2 (some .boolean), Cond.methodLink RJ2 157 yJ11_highSurrogate_5068e, Cond.static yJ11_highSurrogate_5068e, Cond.code yJ11_highSurrogate_5068e cJ11_highSurrogate_5068e 1 (some .char), Cond.constant RJ11 110 (55232), Cond.methodLink RJ2 161 yJ11_lowSurrogate_5068e, Cond.static yJ11_lowSurrogate_5068e, Cond.code yJ11_lowSurrogate_5068e cJ11_lowSurrogate_5068e 1 (some .char), Cond.constant RJ11 76 (56320)]
def wsJ0_indexOf_0f7a4 : List Cond := .code yJ0_indexOf_0f7a4 cJ0_indexOf_0f7a4 2 (some .int) :: ((wsJ0_indexOf_0f7a4_r1 ++ (wsJ0_indexOf_0f7a4_r2 ++ (wsJ0_indexOf_0f7a4_r3 ++ wsJ0_indexOf_0f7a4_r4))))
def wsX3_readRow_r1 : List Cond := [Cond.fieldLink RX3 15 "MirrorShares$Told" "length" "I", Cond.methodLink RX3 32 yX3_letterAt, Cond.instanceMethod yX3_letterAt, Cond.selects RX3 yX3_letterAt yX3_letterAt, Cond.initialized RX3, Cond.code yX3_letterAt cX3_letterAt 2 (some .int), Cond.fieldLink RX3 9 "MirrorShares$Told" "letters" "[I", Cond.methodLink RX3 35 yX2_addRow, Cond.instanceMethod yX2_addRow, Cond.selects RX2 yX2_addRow yX2_addRow, Cond.initialized RX2, Cond.code yX2_addRow cX2_addRow 3 (some .boolean), Cond.fieldLink RX2 19 "MirrorShares$Room" "rows" "I", Cond.fieldLink RX2 15 "MirrorShares$Room" "columns" "I", Cond.methodLink RX3 39 yX2_cells, Cond.instanceMethod yX2_cells, Cond.selects RX2 yX2_cells yX2_cells, Cond.code yX2_cells cX2_cells 1 (some .int), Cond.methodLink RX3 45 yJ0_indexOf_0f7a4, Cond.instanceMethod yJ0_indexOf_0f7a4, Cond.selects RJ0 yJ0_indexOf_0f7a4 yJ0_indexOf_0f7a4, Cond.initialized RJ0, Cond.code yJ0_indexOf_0f7a4 cJ0_indexOf_0f7a4 2 (some .int), Cond.methodLink RJ0 633 yJ0_indexOf_7cf53]
def wsX3_readRow_r2 : List Cond := [Cond.instanceMethod yJ0_indexOf_7cf53, Cond.selects RJ0 yJ0_indexOf_7cf53 yJ0_indexOf_7cf53, Cond.code yJ0_indexOf_7cf53 cJ0_indexOf_7cf53 3 (some .int), Cond.fieldLink RJ0 9 "java/lang/String" "value" "[B", Cond.methodLink RJ0 492 yJ0_isLatin1_aae02, Cond.instanceMethod yJ0_isLatin1_aae02, Cond.selects RJ0 yJ0_isLatin1_aae02 yJ0_isLatin1_aae02, Cond.code yJ0_isLatin1_aae02 cJ0_isLatin1_aae02 1 (some .boolean), Cond.fieldLink RJ0 38 "java/lang/String" "COMPACT_STRINGS" "Z", Cond.fieldLink RJ0 15 "java/lang/String" "coder" "B", Cond.methodLink RJ0 505 yJ0_length_8abf5, Cond.instanceMethod yJ0_length_8abf5, Cond.selects RJ0 yJ0_length_8abf5 yJ0_length_8abf5, Cond.code yJ0_length_8abf5 cJ0_length_8abf5 1 (some .int), Cond.methodLink RJ0 335 yJ0_coder_7d493, Cond.instanceMethod yJ0_coder_7d493, Cond.selects RJ0 yJ0_coder_7d493 yJ0_coder_7d493, Cond.code yJ0_coder_7d493 cJ0_coder_7d493 1 (some .byte), Cond.methodLink RJ0 637 yJ1_indexOf_4cfef, Cond.static yJ1_indexOf_4cfef, Cond.initialized RJ1, Cond.code yJ1_indexOf_4cfef cJ1_indexOf_4cfef 4 (some .int), Cond.methodLink RJ1 92 Lib.Math.max.name, Cond.static Lib.Math.max.name]
def wsX3_readRow_r3 : List Cond := [Cond.initialized "java/lang/Math", Cond.code Lib.Math.max.name Lib.Math.max.code 2 (some .int), Cond.methodLink RJ1 38 Lib.Math.min.name, Cond.static Lib.Math.min.name, Cond.code Lib.Math.min.name Lib.Math.min.code 2 (some .int), Cond.methodLink RJ1 88 yJ1_canEncode_9a6ad, Cond.static yJ1_canEncode_9a6ad, Cond.code yJ1_canEncode_9a6ad cJ1_canEncode_9a6ad 1 (some .boolean), Cond.methodLink RJ1 95 yJ1_indexOfChar_4cfef, Cond.static yJ1_indexOfChar_4cfef, Cond.code yJ1_indexOfChar_4cfef cJ1_indexOfChar_4cfef 6 (some .int), Cond.methodLink RJ0 640 yJ2_indexOf_4cfef, Cond.static yJ2_indexOf_4cfef, Cond.initialized RJ2, Cond.code yJ2_indexOf_4cfef cJ2_indexOf_4cfef 4 (some .int), Cond.methodLink RJ2 224 Lib.Math.max.name, Cond.methodLink RJ2 183 Lib.Math.min.name, Cond.constant RJ2 227 (65536), Cond.methodLink RJ2 228 yJ2_indexOfChar_4cfef, Cond.static yJ2_indexOfChar_4cfef, Cond.code yJ2_indexOfChar_4cfef cJ2_indexOfChar_4cfef 4 (some .int), Cond.methodLink RJ2 96 yJ2_checkBoundsBeginEnd_d044e, Cond.static yJ2_checkBoundsBeginEnd_d044e, Cond.code yJ2_checkBoundsBeginEnd_d044e cJ2_checkBoundsBeginEnd_d044e 3 none]
def wsX3_readRow_r4 : List Cond := [Cond.methodLink RJ2 48 yJ2_length_9d52b, Cond.static yJ2_length_9d52b, Cond.code yJ2_length_9d52b cJ2_length_9d52b 1 (some .int), Cond.methodLink RJ2 241 yJ0_checkBoundsBeginEnd_23922, Cond.static yJ0_checkBoundsBeginEnd_23922, Cond.code yJ0_checkBoundsBeginEnd_23922 cJ0_checkBoundsBeginEnd_23922 3 none, Cond.fieldLink RJ0 1053 "jdk/internal/util/Preconditions" "SIOOBE_FORMATTER" "Ljava/util/function/BiFunction;", Cond.methodLink RJ0 1062 yJ3_checkFromToIndex_8c36e, Cond.static yJ3_checkFromToIndex_8c36e, Cond.initialized RJ3, Cond.code yJ3_checkFromToIndex_8c36e cJ3_checkFromToIndex_8c36e 4 (some .int), Cond.methodLink RJ2 244 yJ2_indexOfCharUnsafe_4cfef, Cond.static yJ2_indexOfCharUnsafe_4cfef, Cond.code yJ2_indexOfCharUnsafe_4cfef cJ2_indexOfCharUnsafe_4cfef 5 (some .int), Cond.methodLink RJ2 71 yJ2_getChar_3b067, Cond.static yJ2_getChar_3b067, Cond.code yJ2_getChar_3b067 cJ2_getChar_3b067 2 (some .char), Cond.fieldLink RJ2 44 "java/lang/StringUTF16" "$assertionsDisabled" "Z", Cond.fieldLink RJ2 59 "java/lang/StringUTF16" "HI_BYTE_SHIFT" "I", Cond.fieldLink RJ2 63 "java/lang/StringUTF16" "LO_BYTE_SHIFT" "I", Cond.methodLink RJ2 232 yJ2_indexOfSupplementary_4cfef, Cond.static yJ2_indexOfSupplementary_4cfef, Cond.code yJ2_indexOfSupplementary_4cfef cJ2_indexOfSupplementary_4cfef 7 (some .int), Cond.methodLink RJ2 164 yJ11_isValidCodePoint_9a6ad]
def wsX3_readRow_r5 : List Cond := [Cond.static yJ11_isValidCodePoint_9a6ad, Cond.initialized RJ11, Cond.code yJ11_isValidCodePoint_9a6ad cJ11_isValidCodePoint_9a6ad 2 (some .boolean), Cond.methodLink RJ2 157 yJ11_highSurrogate_5068e, Cond.static yJ11_highSurrogate_5068e, Cond.code yJ11_highSurrogate_5068e cJ11_highSurrogate_5068e 1 (some .char), Cond.constant RJ11 110 (55232), Cond.methodLink RJ2 161 yJ11_lowSurrogate_5068e, Cond.static yJ11_lowSurrogate_5068e, Cond.code yJ11_lowSurrogate_5068e cJ11_lowSurrogate_5068e 1 (some .char), Cond.constant RJ11 76 (56320), Cond.methodLink RX3 50 yX2_tell, Cond.instanceMethod yX2_tell, Cond.selects RX2 yX2_tell yX2_tell, Cond.code yX2_tell cX2_tell 3 none, Cond.fieldLink RX2 9 "MirrorShares$Room" "kinds" "[I", Cond.methodLink RX2 35 yX2_cells, Cond.methodLink RX3 54 yX2_isOverfull, Cond.instanceMethod yX2_isOverfull, Cond.selects RX2 yX2_isOverfull yX2_isOverfull, Cond.code yX2_isOverfull cX2_isOverfull 1 (some .boolean), Cond.methodLink RX2 42 yX2_countKinds, Cond.instanceMethod yX2_countKinds, Cond.selects RX2 yX2_countKinds yX2_countKinds]
def wsX3_readRow_r6 : List Cond := [Cond.code yX2_countKinds cX2_countKinds 6 (some .int), Cond.methodLink RX2 38 yX2_kindAt, Cond.instanceMethod yX2_kindAt, Cond.selects RX2 yX2_kindAt yX2_kindAt, Cond.code yX2_kindAt cX2_kindAt 2 (some .int)]
def wsX3_readRow : List Cond := .code yX3_readRow cX3_readRow 8 (some .boolean) :: ((wsX3_readRow_r1 ++ (wsX3_readRow_r2 ++ (wsX3_readRow_r3 ++ (wsX3_readRow_r4 ++ (wsX3_readRow_r5 ++ wsX3_readRow_r6))))) ++ wsX30 ++ wsX20)
def wsX3_readInto_r1 : List Cond := [Cond.fieldLink RX3 15 "MirrorShares$Told" "length" "I", Cond.methodLink RX3 19 yX2_empty, Cond.instanceMethod yX2_empty, Cond.selects RX2 yX2_empty yX2_empty, Cond.initialized RX2, Cond.code yX2_empty cX2_empty 1 none, Cond.fieldLink RX2 15 "MirrorShares$Room" "columns" "I", Cond.fieldLink RX2 19 "MirrorShares$Room" "rows" "I", Cond.methodLink RX3 24 yX3_endOfItem, Cond.instanceMethod yX3_endOfItem, Cond.selects RX3 yX3_endOfItem yX3_endOfItem, Cond.initialized RX3, Cond.code yX3_endOfItem cX3_endOfItem 3 (some .int), Cond.methodLink RX3 32 yX3_letterAt, Cond.instanceMethod yX3_letterAt, Cond.selects RX3 yX3_letterAt yX3_letterAt, Cond.code yX3_letterAt cX3_letterAt 2 (some .int), Cond.fieldLink RX3 9 "MirrorShares$Told" "letters" "[I", Cond.methodLink RX3 28 yX3_readRow, Cond.instanceMethod yX3_readRow, Cond.selects RX3 yX3_readRow yX3_readRow, Cond.code yX3_readRow cX3_readRow 8 (some .boolean), Cond.methodLink RX3 35 yX2_addRow, Cond.instanceMethod yX2_addRow]
def wsX3_readInto_r2 : List Cond := [Cond.selects RX2 yX2_addRow yX2_addRow, Cond.code yX2_addRow cX2_addRow 3 (some .boolean), Cond.methodLink RX3 39 yX2_cells, Cond.instanceMethod yX2_cells, Cond.selects RX2 yX2_cells yX2_cells, Cond.code yX2_cells cX2_cells 1 (some .int), Cond.methodLink RX3 45 yJ0_indexOf_0f7a4, Cond.instanceMethod yJ0_indexOf_0f7a4, Cond.selects RJ0 yJ0_indexOf_0f7a4 yJ0_indexOf_0f7a4, Cond.initialized RJ0, Cond.code yJ0_indexOf_0f7a4 cJ0_indexOf_0f7a4 2 (some .int), Cond.methodLink RJ0 633 yJ0_indexOf_7cf53, Cond.instanceMethod yJ0_indexOf_7cf53, Cond.selects RJ0 yJ0_indexOf_7cf53 yJ0_indexOf_7cf53, Cond.code yJ0_indexOf_7cf53 cJ0_indexOf_7cf53 3 (some .int), Cond.fieldLink RJ0 9 "java/lang/String" "value" "[B", Cond.methodLink RJ0 492 yJ0_isLatin1_aae02, Cond.instanceMethod yJ0_isLatin1_aae02, Cond.selects RJ0 yJ0_isLatin1_aae02 yJ0_isLatin1_aae02, Cond.code yJ0_isLatin1_aae02 cJ0_isLatin1_aae02 1 (some .boolean), Cond.fieldLink RJ0 38 "java/lang/String" "COMPACT_STRINGS" "Z", Cond.fieldLink RJ0 15 "java/lang/String" "coder" "B", Cond.methodLink RJ0 505 yJ0_length_8abf5, Cond.instanceMethod yJ0_length_8abf5]
def wsX3_readInto_r3 : List Cond := [Cond.selects RJ0 yJ0_length_8abf5 yJ0_length_8abf5, Cond.code yJ0_length_8abf5 cJ0_length_8abf5 1 (some .int), Cond.methodLink RJ0 335 yJ0_coder_7d493, Cond.instanceMethod yJ0_coder_7d493, Cond.selects RJ0 yJ0_coder_7d493 yJ0_coder_7d493, Cond.code yJ0_coder_7d493 cJ0_coder_7d493 1 (some .byte), Cond.methodLink RJ0 637 yJ1_indexOf_4cfef, Cond.static yJ1_indexOf_4cfef, Cond.initialized RJ1, Cond.code yJ1_indexOf_4cfef cJ1_indexOf_4cfef 4 (some .int), Cond.methodLink RJ1 92 Lib.Math.max.name, Cond.static Lib.Math.max.name, Cond.initialized "java/lang/Math", Cond.code Lib.Math.max.name Lib.Math.max.code 2 (some .int), Cond.methodLink RJ1 38 Lib.Math.min.name, Cond.static Lib.Math.min.name, Cond.code Lib.Math.min.name Lib.Math.min.code 2 (some .int), Cond.methodLink RJ1 88 yJ1_canEncode_9a6ad, Cond.static yJ1_canEncode_9a6ad, Cond.code yJ1_canEncode_9a6ad cJ1_canEncode_9a6ad 1 (some .boolean), Cond.methodLink RJ1 95 yJ1_indexOfChar_4cfef, Cond.static yJ1_indexOfChar_4cfef, Cond.code yJ1_indexOfChar_4cfef cJ1_indexOfChar_4cfef 6 (some .int), Cond.methodLink RJ0 640 yJ2_indexOf_4cfef]
def wsX3_readInto_r4 : List Cond := [Cond.static yJ2_indexOf_4cfef, Cond.initialized RJ2, Cond.code yJ2_indexOf_4cfef cJ2_indexOf_4cfef 4 (some .int), Cond.methodLink RJ2 224 Lib.Math.max.name, Cond.methodLink RJ2 183 Lib.Math.min.name, Cond.constant RJ2 227 (65536), Cond.methodLink RJ2 228 yJ2_indexOfChar_4cfef, Cond.static yJ2_indexOfChar_4cfef, Cond.code yJ2_indexOfChar_4cfef cJ2_indexOfChar_4cfef 4 (some .int), Cond.methodLink RJ2 96 yJ2_checkBoundsBeginEnd_d044e, Cond.static yJ2_checkBoundsBeginEnd_d044e, Cond.code yJ2_checkBoundsBeginEnd_d044e cJ2_checkBoundsBeginEnd_d044e 3 none, Cond.methodLink RJ2 48 yJ2_length_9d52b, Cond.static yJ2_length_9d52b, Cond.code yJ2_length_9d52b cJ2_length_9d52b 1 (some .int), Cond.methodLink RJ2 241 yJ0_checkBoundsBeginEnd_23922, Cond.static yJ0_checkBoundsBeginEnd_23922, Cond.code yJ0_checkBoundsBeginEnd_23922 cJ0_checkBoundsBeginEnd_23922 3 none, Cond.fieldLink RJ0 1053 "jdk/internal/util/Preconditions" "SIOOBE_FORMATTER" "Ljava/util/function/BiFunction;", Cond.methodLink RJ0 1062 yJ3_checkFromToIndex_8c36e, Cond.static yJ3_checkFromToIndex_8c36e, Cond.initialized RJ3, Cond.code yJ3_checkFromToIndex_8c36e cJ3_checkFromToIndex_8c36e 4 (some .int), Cond.methodLink RJ2 244 yJ2_indexOfCharUnsafe_4cfef]
def wsX3_readInto_r5 : List Cond := [Cond.static yJ2_indexOfCharUnsafe_4cfef, Cond.code yJ2_indexOfCharUnsafe_4cfef cJ2_indexOfCharUnsafe_4cfef 5 (some .int), Cond.methodLink RJ2 71 yJ2_getChar_3b067, Cond.static yJ2_getChar_3b067, Cond.code yJ2_getChar_3b067 cJ2_getChar_3b067 2 (some .char), Cond.fieldLink RJ2 44 "java/lang/StringUTF16" "$assertionsDisabled" "Z", Cond.fieldLink RJ2 59 "java/lang/StringUTF16" "HI_BYTE_SHIFT" "I", Cond.fieldLink RJ2 63 "java/lang/StringUTF16" "LO_BYTE_SHIFT" "I", Cond.methodLink RJ2 232 yJ2_indexOfSupplementary_4cfef, Cond.static yJ2_indexOfSupplementary_4cfef, Cond.code yJ2_indexOfSupplementary_4cfef cJ2_indexOfSupplementary_4cfef 7 (some .int), Cond.methodLink RJ2 164 yJ11_isValidCodePoint_9a6ad, Cond.static yJ11_isValidCodePoint_9a6ad, Cond.initialized RJ11, Cond.code yJ11_isValidCodePoint_9a6ad cJ11_isValidCodePoint_9a6ad 2 (some .boolean), Cond.methodLink RJ2 157 yJ11_highSurrogate_5068e, Cond.static yJ11_highSurrogate_5068e, Cond.code yJ11_highSurrogate_5068e cJ11_highSurrogate_5068e 1 (some .char), Cond.constant RJ11 110 (55232), Cond.methodLink RJ2 161 yJ11_lowSurrogate_5068e, Cond.static yJ11_lowSurrogate_5068e, Cond.code yJ11_lowSurrogate_5068e cJ11_lowSurrogate_5068e 1 (some .char), Cond.constant RJ11 76 (56320), Cond.methodLink RX3 50 yX2_tell]
def wsX3_readInto_r6 : List Cond := [Cond.instanceMethod yX2_tell, Cond.selects RX2 yX2_tell yX2_tell, Cond.code yX2_tell cX2_tell 3 none, Cond.fieldLink RX2 9 "MirrorShares$Room" "kinds" "[I", Cond.methodLink RX2 35 yX2_cells, Cond.methodLink RX3 54 yX2_isOverfull, Cond.instanceMethod yX2_isOverfull, Cond.selects RX2 yX2_isOverfull yX2_isOverfull, Cond.code yX2_isOverfull cX2_isOverfull 1 (some .boolean), Cond.methodLink RX2 42 yX2_countKinds, Cond.instanceMethod yX2_countKinds, Cond.selects RX2 yX2_countKinds yX2_countKinds, Cond.code yX2_countKinds cX2_countKinds 6 (some .int), Cond.methodLink RX2 38 yX2_kindAt, Cond.instanceMethod yX2_kindAt, Cond.selects RX2 yX2_kindAt yX2_kindAt, Cond.code yX2_kindAt cX2_kindAt 2 (some .int)]
def wsX3_readInto : List Cond := .code yX3_readInto cX3_readInto 5 (some .int) :: ((wsX3_readInto_r1 ++ (wsX3_readInto_r2 ++ (wsX3_readInto_r3 ++ (wsX3_readInto_r4 ++ (wsX3_readInto_r5 ++ wsX3_readInto_r6))))) ++ wsX30 ++ wsX20)
def wsX4_init : List Cond := .code yX4_init cX4_init 1 none :: ([.methodLink RX4 3 objectInit, .instanceMethod objectInit, .code objectInit ⟨#[0xb1]⟩ 1 none, .arrayClass .int, .fieldLink RX4 11 "MirrorShares$Walk" "queue" "[I", .fieldLink RX4 15 "MirrorShares$Walk" "cellsTo" "[I", .fieldLink RX4 18 "MirrorShares$Walk" "cellsToPort" "[I", .fieldLink RX4 21 "MirrorShares$Walk" "waiting" "I", .fieldLink RX4 25 "MirrorShares$Walk" "litCells" "I"] ++ wsX40)
def wsX4_enter : List Cond := .code yX4_enter cX4_enter 5 none :: ([.fieldLink RX4 21 "MirrorShares$Walk" "waiting" "I", .fieldLink RX4 15 "MirrorShares$Walk" "cellsTo" "[I", .fieldLink RX4 11 "MirrorShares$Walk" "queue" "[I", .fieldLink RX4 25 "MirrorShares$Walk" "litCells" "I"] ++ wsX40)
def wsX4_reach : List Cond := .code yX4_reach cX4_reach 3 none :: ([.fieldLink RX4 18 "MirrorShares$Walk" "cellsToPort" "[I"] ++ wsX40)
def wsX4_leave : List Cond := .code yX4_leave cX4_leave 6 none :: ([.methodLink RX4 69 yX2_beyond, .instanceMethod yX2_beyond, .selects RX2 yX2_beyond yX2_beyond, .initialized RX2, .code yX2_beyond cX2_beyond 5 (some .int), .fieldLink RX2 15 "MirrorShares$Room" "columns" "I", .fieldLink RX2 19 "MirrorShares$Room" "rows" "I", .methodLink RX4 43 yX4_enter, .instanceMethod yX4_enter, .selects RX4 yX4_enter yX4_enter, .initialized RX4, .code yX4_enter cX4_enter 5 none, .fieldLink RX4 21 "MirrorShares$Walk" "waiting" "I", .fieldLink RX4 15 "MirrorShares$Walk" "cellsTo" "[I", .fieldLink RX4 11 "MirrorShares$Walk" "queue" "[I", .fieldLink RX4 25 "MirrorShares$Walk" "litCells" "I", .methodLink RX4 72 yX4_reach, .instanceMethod yX4_reach, .selects RX4 yX4_reach yX4_reach, .code yX4_reach cX4_reach 3 none, .fieldLink RX4 18 "MirrorShares$Walk" "cellsToPort" "[I"] ++ wsX20 ++ wsX40)
def wsX4_spread_r1 : List Cond := [Cond.fieldLink RX4 15 "MirrorShares$Walk" "cellsTo" "[I", Cond.methodLink RX4 51 yX2_kindAt, Cond.instanceMethod yX2_kindAt, Cond.selects RX2 yX2_kindAt yX2_kindAt, Cond.initialized RX2, Cond.code yX2_kindAt cX2_kindAt 2 (some .int), Cond.fieldLink RX2 9 "MirrorShares$Room" "kinds" "[I", Cond.methodLink RX2 35 yX2_cells, Cond.instanceMethod yX2_cells, Cond.selects RX2 yX2_cells yX2_cells, Cond.code yX2_cells cX2_cells 1 (some .int), Cond.fieldLink RX2 15 "MirrorShares$Room" "columns" "I", Cond.fieldLink RX2 19 "MirrorShares$Room" "rows" "I", Cond.static yX5_letsOn, Cond.initialized RX5, Cond.code yX5_letsOn cX5_letsOn 1 (some .boolean), Cond.methodLink RX5 209 yX5_isHalf, Cond.static yX5_isHalf, Cond.code yX5_isHalf cX5_isHalf 1 (some .boolean), Cond.methodLink RX4 58 yX4_leave, Cond.instanceMethod yX4_leave, Cond.selects RX4 yX4_leave yX4_leave, Cond.initialized RX4, Cond.code yX4_leave cX4_leave 6 none]
def wsX4_spread_r2 : List Cond := [Cond.methodLink RX4 69 yX2_beyond, Cond.instanceMethod yX2_beyond, Cond.selects RX2 yX2_beyond yX2_beyond, Cond.code yX2_beyond cX2_beyond 5 (some .int), Cond.methodLink RX4 43 yX4_enter, Cond.instanceMethod yX4_enter, Cond.selects RX4 yX4_enter yX4_enter, Cond.code yX4_enter cX4_enter 5 none, Cond.fieldLink RX4 21 "MirrorShares$Walk" "waiting" "I", Cond.fieldLink RX4 11 "MirrorShares$Walk" "queue" "[I", Cond.fieldLink RX4 25 "MirrorShares$Walk" "litCells" "I", Cond.methodLink RX4 72 yX4_reach, Cond.instanceMethod yX4_reach, Cond.selects RX4 yX4_reach yX4_reach, Cond.code yX4_reach cX4_reach 3 none, Cond.fieldLink RX4 18 "MirrorShares$Walk" "cellsToPort" "[I", Cond.static yX5_turnsBeam, Cond.code yX5_turnsBeam cX5_turnsBeam 1 (some .boolean), Cond.static yX5_turnedBy, Cond.code yX5_turnedBy cX5_turnedBy 3 (some .int)]
def wsX4_spread : List Cond := .code yX4_spread cX4_spread 7 none :: ((wsX4_spread_r1 ++ wsX4_spread_r2) ++ wsX40 ++ wsX20)
def wsX4_goFrom_r1 : List Cond := [Cond.fieldLink RX4 15 "MirrorShares$Walk" "cellsTo" "[I", Cond.fieldLink RX4 18 "MirrorShares$Walk" "cellsToPort" "[I", Cond.fieldLink RX4 21 "MirrorShares$Walk" "waiting" "I", Cond.fieldLink RX4 25 "MirrorShares$Walk" "litCells" "I", Cond.fieldLink RX4 11 "MirrorShares$Walk" "queue" "[I", Cond.methodLink RX4 28 yJ7_fill_53178, Cond.static yJ7_fill_53178, Cond.initialized RJ7, Cond.code yJ7_fill_53178 cJ7_fill_53178 4 none, Cond.methodLink RX4 34 yX2_portCell, Cond.instanceMethod yX2_portCell, Cond.selects RX2 yX2_portCell yX2_portCell, Cond.initialized RX2, Cond.code yX2_portCell cX2_portCell 2 (some .int), Cond.fieldLink RX2 15 "MirrorShares$Room" "columns" "I", Cond.fieldLink RX2 19 "MirrorShares$Room" "rows" "I", Cond.methodLink RX2 46 yX2_portDirection, Cond.instanceMethod yX2_portDirection, Cond.selects RX2 yX2_portDirection yX2_portDirection, Cond.code yX2_portDirection cX2_portDirection 2 (some .int), Cond.methodLink RX4 40 yX2_portDirection, Cond.methodLink RX4 43 yX4_enter, Cond.instanceMethod yX4_enter, Cond.selects RX4 yX4_enter yX4_enter]
def wsX4_goFrom_r2 : List Cond := [Cond.initialized RX4, Cond.code yX4_enter cX4_enter 5 none, Cond.methodLink RX4 47 yX4_spread, Cond.instanceMethod yX4_spread, Cond.selects RX4 yX4_spread yX4_spread, Cond.code yX4_spread cX4_spread 7 none, Cond.methodLink RX4 51 yX2_kindAt, Cond.instanceMethod yX2_kindAt, Cond.selects RX2 yX2_kindAt yX2_kindAt, Cond.code yX2_kindAt cX2_kindAt 2 (some .int), Cond.fieldLink RX2 9 "MirrorShares$Room" "kinds" "[I", Cond.methodLink RX2 35 yX2_cells, Cond.instanceMethod yX2_cells, Cond.selects RX2 yX2_cells yX2_cells, Cond.code yX2_cells cX2_cells 1 (some .int), Cond.static yX5_letsOn, Cond.initialized RX5, Cond.code yX5_letsOn cX5_letsOn 1 (some .boolean), Cond.methodLink RX5 209 yX5_isHalf, Cond.static yX5_isHalf, Cond.code yX5_isHalf cX5_isHalf 1 (some .boolean), Cond.methodLink RX4 58 yX4_leave, Cond.instanceMethod yX4_leave, Cond.selects RX4 yX4_leave yX4_leave]
def wsX4_goFrom_r3 : List Cond := [Cond.code yX4_leave cX4_leave 6 none, Cond.methodLink RX4 69 yX2_beyond, Cond.instanceMethod yX2_beyond, Cond.selects RX2 yX2_beyond yX2_beyond, Cond.code yX2_beyond cX2_beyond 5 (some .int), Cond.methodLink RX4 72 yX4_reach, Cond.instanceMethod yX4_reach, Cond.selects RX4 yX4_reach yX4_reach, Cond.code yX4_reach cX4_reach 3 none, Cond.static yX5_turnsBeam, Cond.code yX5_turnsBeam cX5_turnsBeam 1 (some .boolean), Cond.static yX5_turnedBy, Cond.code yX5_turnedBy cX5_turnedBy 3 (some .int)]
def wsX4_goFrom : List Cond := .code yX4_goFrom cX4_goFrom 4 none :: ((wsX4_goFrom_r1 ++ (wsX4_goFrom_r2 ++ wsX4_goFrom_r3)) ++ wsX40 ++ wsX20)
def wsX4_fewestTo : List Cond := .code yX4_fewestTo cX4_fewestTo 2 (some .int) :: ([.fieldLink RX4 18 "MirrorShares$Walk" "cellsToPort" "[I"] ++ wsX40)
def wsX5_init_r1 : List Cond := [Cond.methodLink RX5 3 objectInit, Cond.instanceMethod objectInit, Cond.code objectInit ⟨#[0xb1]⟩ 1 none, Cond.classLink RX5 9 RX3, Cond.instantiable RX3 2, Cond.initialized RX3, Cond.fieldLink RX5 12 "MirrorShares" "text" "LMirrorShares$Told;", Cond.classLink RX5 16 RX2, Cond.instantiable RX2 3, Cond.initialized RX2, Cond.fieldLink RX5 19 "MirrorShares" "room" "LMirrorShares$Room;", Cond.fieldLink RX5 23 "MirrorShares" "trial" "LMirrorShares$Room;", Cond.classLink RX5 26 RX1, Cond.instantiable RX1 2, Cond.initialized RX1, Cond.fieldLink RX5 29 "MirrorShares" "past" "LMirrorShares$Past;", Cond.classLink RX5 33 RX4, Cond.instantiable RX4 5, Cond.initialized RX4, Cond.fieldLink RX5 36 "MirrorShares" "walk" "LMirrorShares$Walk;", Cond.classLink RX5 40 RX0, Cond.instantiable RX0 7, Cond.initialized RX0, Cond.fieldLink RX5 43 "MirrorShares" "beam" "LMirrorShares$Beam;"]
def wsX5_init_r2 : List Cond := [Cond.instanceMethod yX3_init, Cond.code yX3_init cX3_init 1 none, Cond.methodLink RX3 3 objectInit, Cond.arrayClass .int, Cond.fieldLink RX3 9 "MirrorShares$Told" "letters" "[I", Cond.fieldLink RX3 15 "MirrorShares$Told" "length" "I", Cond.methodLink RX5 18 yX2_init, Cond.instanceMethod yX2_init, Cond.code yX2_init cX2_init 1 none, Cond.methodLink RX2 3 objectInit, Cond.fieldLink RX2 9 "MirrorShares$Room" "kinds" "[I", Cond.fieldLink RX2 15 "MirrorShares$Room" "columns" "I", Cond.fieldLink RX2 19 "MirrorShares$Room" "rows" "I", Cond.methodLink RX2 25 arraycopyName, Cond.native arraycopyName, Cond.static arraycopyName, Cond.initialized "java/lang/System", Cond.instanceMethod yX1_init, Cond.code yX1_init cX1_init 1 none, Cond.methodLink RX1 3 objectInit, Cond.fieldLink RX1 9 "MirrorShares$Past" "changes" "[I", Cond.fieldLink RX1 15 "MirrorShares$Past" "size" "I", Cond.instanceMethod yX4_init, Cond.code yX4_init cX4_init 1 none]
def wsX5_init_r3 : List Cond := [Cond.methodLink RX4 3 objectInit, Cond.fieldLink RX4 11 "MirrorShares$Walk" "queue" "[I", Cond.fieldLink RX4 15 "MirrorShares$Walk" "cellsTo" "[I", Cond.fieldLink RX4 18 "MirrorShares$Walk" "cellsToPort" "[I", Cond.fieldLink RX4 21 "MirrorShares$Walk" "waiting" "I", Cond.fieldLink RX4 25 "MirrorShares$Walk" "litCells" "I", Cond.instanceMethod yX0_init, Cond.code yX0_init cX0_init 1 none, Cond.methodLink RX0 5 objectInit, Cond.fieldLink RX0 11 "MirrorShares$Beam" "splitPlace" "[I", Cond.fieldLink RX0 15 "MirrorShares$Beam" "splitNumber" "[I", Cond.fieldLink RX0 18 "MirrorShares$Beam" "rayEnd" "[I", Cond.classLink RX0 21 "[[J", Cond.arrayClass .long, Cond.fieldLink RX0 23 "MirrorShares$Beam" "rows" "[[J", Cond.fieldLink RX0 26 "MirrorShares$Beam" "parts" "[J", Cond.fieldLink RX0 30 "MirrorShares$Beam" "splits" "I", Cond.fieldLink RX0 34 "MirrorShares$Beam" "whole" "J"]
def wsX5_init : List Cond := .code yX5_init cX5_init 1 none :: ((wsX5_init_r1 ++ (wsX5_init_r2 ++ wsX5_init_r3)) ++ wsX30 ++ wsX50 ++ wsX20 ++ wsX10 ++ wsX40 ++ wsX00)
def wsX5_write : List Cond := .code yX5_write cX5_write 2 (some .int) :: ([.fieldLink RX5 12 "MirrorShares" "text" "LMirrorShares$Told;", .methodLink RX5 47 yX3_append, .instanceMethod yX3_append, .selects RX3 yX3_append yX3_append, .initialized RX3, .code yX3_append cX3_append 2 (some .int), .fieldLink RX3 15 "MirrorShares$Told" "length" "I", .fieldLink RX3 9 "MirrorShares$Told" "letters" "[I"] ++ wsX50 ++ wsX30)
def wsX5_wipe : List Cond := .code yX5_wipe cX5_wipe 1 (some .int) :: ([.fieldLink RX5 12 "MirrorShares" "text" "LMirrorShares$Told;", .methodLink RX5 51 yX3_clear, .instanceMethod yX3_clear, .selects RX3 yX3_clear yX3_clear, .initialized RX3, .code yX3_clear cX3_clear 2 (some .int), .fieldLink RX3 15 "MirrorShares$Told" "length" "I"] ++ wsX50 ++ wsX30)
def wsX5_fault_r1 : List Cond := [Cond.fieldLink RX5 12 "MirrorShares" "text" "LMirrorShares$Told;", Cond.fieldLink RX5 23 "MirrorShares" "trial" "LMirrorShares$Room;", Cond.methodLink RX5 55 yX3_readInto, Cond.instanceMethod yX3_readInto, Cond.selects RX3 yX3_readInto yX3_readInto, Cond.initialized RX3, Cond.code yX3_readInto cX3_readInto 5 (some .int), Cond.fieldLink RX3 15 "MirrorShares$Told" "length" "I", Cond.methodLink RX3 19 yX2_empty, Cond.instanceMethod yX2_empty, Cond.selects RX2 yX2_empty yX2_empty, Cond.initialized RX2, Cond.code yX2_empty cX2_empty 1 none, Cond.fieldLink RX2 15 "MirrorShares$Room" "columns" "I", Cond.fieldLink RX2 19 "MirrorShares$Room" "rows" "I", Cond.methodLink RX3 24 yX3_endOfItem, Cond.instanceMethod yX3_endOfItem, Cond.selects RX3 yX3_endOfItem yX3_endOfItem, Cond.code yX3_endOfItem cX3_endOfItem 3 (some .int), Cond.methodLink RX3 32 yX3_letterAt, Cond.instanceMethod yX3_letterAt, Cond.selects RX3 yX3_letterAt yX3_letterAt, Cond.code yX3_letterAt cX3_letterAt 2 (some .int), Cond.fieldLink RX3 9 "MirrorShares$Told" "letters" "[I"]
def wsX5_fault_r2 : List Cond := [Cond.methodLink RX3 28 yX3_readRow, Cond.instanceMethod yX3_readRow, Cond.selects RX3 yX3_readRow yX3_readRow, Cond.code yX3_readRow cX3_readRow 8 (some .boolean), Cond.methodLink RX3 35 yX2_addRow, Cond.instanceMethod yX2_addRow, Cond.selects RX2 yX2_addRow yX2_addRow, Cond.code yX2_addRow cX2_addRow 3 (some .boolean), Cond.methodLink RX3 39 yX2_cells, Cond.instanceMethod yX2_cells, Cond.selects RX2 yX2_cells yX2_cells, Cond.code yX2_cells cX2_cells 1 (some .int), Cond.methodLink RX3 45 yJ0_indexOf_0f7a4, Cond.instanceMethod yJ0_indexOf_0f7a4, Cond.selects RJ0 yJ0_indexOf_0f7a4 yJ0_indexOf_0f7a4, Cond.initialized RJ0, Cond.code yJ0_indexOf_0f7a4 cJ0_indexOf_0f7a4 2 (some .int), Cond.methodLink RJ0 633 yJ0_indexOf_7cf53, Cond.instanceMethod yJ0_indexOf_7cf53, Cond.selects RJ0 yJ0_indexOf_7cf53 yJ0_indexOf_7cf53, Cond.code yJ0_indexOf_7cf53 cJ0_indexOf_7cf53 3 (some .int), Cond.fieldLink RJ0 9 "java/lang/String" "value" "[B", Cond.methodLink RJ0 492 yJ0_isLatin1_aae02, Cond.instanceMethod yJ0_isLatin1_aae02]
def wsX5_fault_r3 : List Cond := [Cond.selects RJ0 yJ0_isLatin1_aae02 yJ0_isLatin1_aae02, Cond.code yJ0_isLatin1_aae02 cJ0_isLatin1_aae02 1 (some .boolean), Cond.fieldLink RJ0 38 "java/lang/String" "COMPACT_STRINGS" "Z", Cond.fieldLink RJ0 15 "java/lang/String" "coder" "B", Cond.methodLink RJ0 505 yJ0_length_8abf5, Cond.instanceMethod yJ0_length_8abf5, Cond.selects RJ0 yJ0_length_8abf5 yJ0_length_8abf5, Cond.code yJ0_length_8abf5 cJ0_length_8abf5 1 (some .int), Cond.methodLink RJ0 335 yJ0_coder_7d493, Cond.instanceMethod yJ0_coder_7d493, Cond.selects RJ0 yJ0_coder_7d493 yJ0_coder_7d493, Cond.code yJ0_coder_7d493 cJ0_coder_7d493 1 (some .byte), Cond.methodLink RJ0 637 yJ1_indexOf_4cfef, Cond.static yJ1_indexOf_4cfef, Cond.initialized RJ1, Cond.code yJ1_indexOf_4cfef cJ1_indexOf_4cfef 4 (some .int), Cond.methodLink RJ1 92 Lib.Math.max.name, Cond.static Lib.Math.max.name, Cond.initialized "java/lang/Math", Cond.code Lib.Math.max.name Lib.Math.max.code 2 (some .int), Cond.methodLink RJ1 38 Lib.Math.min.name, Cond.static Lib.Math.min.name, Cond.code Lib.Math.min.name Lib.Math.min.code 2 (some .int), Cond.methodLink RJ1 88 yJ1_canEncode_9a6ad]
def wsX5_fault_r4 : List Cond := [Cond.static yJ1_canEncode_9a6ad, Cond.code yJ1_canEncode_9a6ad cJ1_canEncode_9a6ad 1 (some .boolean), Cond.methodLink RJ1 95 yJ1_indexOfChar_4cfef, Cond.static yJ1_indexOfChar_4cfef, Cond.code yJ1_indexOfChar_4cfef cJ1_indexOfChar_4cfef 6 (some .int), Cond.methodLink RJ0 640 yJ2_indexOf_4cfef, Cond.static yJ2_indexOf_4cfef, Cond.initialized RJ2, Cond.code yJ2_indexOf_4cfef cJ2_indexOf_4cfef 4 (some .int), Cond.methodLink RJ2 224 Lib.Math.max.name, Cond.methodLink RJ2 183 Lib.Math.min.name, Cond.constant RJ2 227 (65536), Cond.methodLink RJ2 228 yJ2_indexOfChar_4cfef, Cond.static yJ2_indexOfChar_4cfef, Cond.code yJ2_indexOfChar_4cfef cJ2_indexOfChar_4cfef 4 (some .int), Cond.methodLink RJ2 96 yJ2_checkBoundsBeginEnd_d044e, Cond.static yJ2_checkBoundsBeginEnd_d044e, Cond.code yJ2_checkBoundsBeginEnd_d044e cJ2_checkBoundsBeginEnd_d044e 3 none, Cond.methodLink RJ2 48 yJ2_length_9d52b, Cond.static yJ2_length_9d52b, Cond.code yJ2_length_9d52b cJ2_length_9d52b 1 (some .int), Cond.methodLink RJ2 241 yJ0_checkBoundsBeginEnd_23922, Cond.static yJ0_checkBoundsBeginEnd_23922, Cond.code yJ0_checkBoundsBeginEnd_23922 cJ0_checkBoundsBeginEnd_23922 3 none]
def wsX5_fault_r5 : List Cond := [Cond.fieldLink RJ0 1053 "jdk/internal/util/Preconditions" "SIOOBE_FORMATTER" "Ljava/util/function/BiFunction;", Cond.methodLink RJ0 1062 yJ3_checkFromToIndex_8c36e, Cond.static yJ3_checkFromToIndex_8c36e, Cond.initialized RJ3, Cond.code yJ3_checkFromToIndex_8c36e cJ3_checkFromToIndex_8c36e 4 (some .int), Cond.methodLink RJ2 244 yJ2_indexOfCharUnsafe_4cfef, Cond.static yJ2_indexOfCharUnsafe_4cfef, Cond.code yJ2_indexOfCharUnsafe_4cfef cJ2_indexOfCharUnsafe_4cfef 5 (some .int), Cond.methodLink RJ2 71 yJ2_getChar_3b067, Cond.static yJ2_getChar_3b067, Cond.code yJ2_getChar_3b067 cJ2_getChar_3b067 2 (some .char), Cond.fieldLink RJ2 44 "java/lang/StringUTF16" "$assertionsDisabled" "Z", Cond.fieldLink RJ2 59 "java/lang/StringUTF16" "HI_BYTE_SHIFT" "I", Cond.fieldLink RJ2 63 "java/lang/StringUTF16" "LO_BYTE_SHIFT" "I", Cond.methodLink RJ2 232 yJ2_indexOfSupplementary_4cfef, Cond.static yJ2_indexOfSupplementary_4cfef, Cond.code yJ2_indexOfSupplementary_4cfef cJ2_indexOfSupplementary_4cfef 7 (some .int), Cond.methodLink RJ2 164 yJ11_isValidCodePoint_9a6ad, Cond.static yJ11_isValidCodePoint_9a6ad, Cond.initialized RJ11, Cond.code yJ11_isValidCodePoint_9a6ad cJ11_isValidCodePoint_9a6ad 2 (some .boolean), Cond.methodLink RJ2 157 yJ11_highSurrogate_5068e, Cond.static yJ11_highSurrogate_5068e, Cond.code yJ11_highSurrogate_5068e cJ11_highSurrogate_5068e 1 (some .char)]
def wsX5_fault_r6 : List Cond := [Cond.constant RJ11 110 (55232), Cond.methodLink RJ2 161 yJ11_lowSurrogate_5068e, Cond.static yJ11_lowSurrogate_5068e, Cond.code yJ11_lowSurrogate_5068e cJ11_lowSurrogate_5068e 1 (some .char), Cond.constant RJ11 76 (56320), Cond.methodLink RX3 50 yX2_tell, Cond.instanceMethod yX2_tell, Cond.selects RX2 yX2_tell yX2_tell, Cond.code yX2_tell cX2_tell 3 none, Cond.fieldLink RX2 9 "MirrorShares$Room" "kinds" "[I", Cond.methodLink RX2 35 yX2_cells, Cond.methodLink RX3 54 yX2_isOverfull, Cond.instanceMethod yX2_isOverfull, Cond.selects RX2 yX2_isOverfull yX2_isOverfull, Cond.code yX2_isOverfull cX2_isOverfull 1 (some .boolean), Cond.methodLink RX2 42 yX2_countKinds, Cond.instanceMethod yX2_countKinds, Cond.selects RX2 yX2_countKinds yX2_countKinds, Cond.code yX2_countKinds cX2_countKinds 6 (some .int), Cond.methodLink RX2 38 yX2_kindAt, Cond.instanceMethod yX2_kindAt, Cond.selects RX2 yX2_kindAt yX2_kindAt, Cond.code yX2_kindAt cX2_kindAt 2 (some .int)]
def wsX5_fault : List Cond := .code yX5_fault cX5_fault 1 (some .int) :: ((wsX5_fault_r1 ++ (wsX5_fault_r2 ++ (wsX5_fault_r3 ++ (wsX5_fault_r4 ++ (wsX5_fault_r5 ++ wsX5_fault_r6))))) ++ wsX50 ++ wsX30 ++ wsX20)
def wsX5_lay_r1 : List Cond := [Cond.fieldLink RX5 12 "MirrorShares" "text" "LMirrorShares$Told;", Cond.fieldLink RX5 23 "MirrorShares" "trial" "LMirrorShares$Room;", Cond.fieldLink RX5 19 "MirrorShares" "room" "LMirrorShares$Room;", Cond.fieldLink RX5 29 "MirrorShares" "past" "LMirrorShares$Past;", Cond.methodLink RX5 55 yX3_readInto, Cond.instanceMethod yX3_readInto, Cond.selects RX3 yX3_readInto yX3_readInto, Cond.initialized RX3, Cond.code yX3_readInto cX3_readInto 5 (some .int), Cond.fieldLink RX3 15 "MirrorShares$Told" "length" "I", Cond.methodLink RX3 19 yX2_empty, Cond.instanceMethod yX2_empty, Cond.selects RX2 yX2_empty yX2_empty, Cond.initialized RX2, Cond.code yX2_empty cX2_empty 1 none, Cond.fieldLink RX2 15 "MirrorShares$Room" "columns" "I", Cond.fieldLink RX2 19 "MirrorShares$Room" "rows" "I", Cond.methodLink RX3 24 yX3_endOfItem, Cond.instanceMethod yX3_endOfItem, Cond.selects RX3 yX3_endOfItem yX3_endOfItem, Cond.code yX3_endOfItem cX3_endOfItem 3 (some .int), Cond.methodLink RX3 32 yX3_letterAt, Cond.instanceMethod yX3_letterAt, Cond.selects RX3 yX3_letterAt yX3_letterAt]
def wsX5_lay_r2 : List Cond := [Cond.code yX3_letterAt cX3_letterAt 2 (some .int), Cond.fieldLink RX3 9 "MirrorShares$Told" "letters" "[I", Cond.methodLink RX3 28 yX3_readRow, Cond.instanceMethod yX3_readRow, Cond.selects RX3 yX3_readRow yX3_readRow, Cond.code yX3_readRow cX3_readRow 8 (some .boolean), Cond.methodLink RX3 35 yX2_addRow, Cond.instanceMethod yX2_addRow, Cond.selects RX2 yX2_addRow yX2_addRow, Cond.code yX2_addRow cX2_addRow 3 (some .boolean), Cond.methodLink RX3 39 yX2_cells, Cond.instanceMethod yX2_cells, Cond.selects RX2 yX2_cells yX2_cells, Cond.code yX2_cells cX2_cells 1 (some .int), Cond.methodLink RX3 45 yJ0_indexOf_0f7a4, Cond.instanceMethod yJ0_indexOf_0f7a4, Cond.selects RJ0 yJ0_indexOf_0f7a4 yJ0_indexOf_0f7a4, Cond.initialized RJ0, Cond.code yJ0_indexOf_0f7a4 cJ0_indexOf_0f7a4 2 (some .int), Cond.methodLink RJ0 633 yJ0_indexOf_7cf53, Cond.instanceMethod yJ0_indexOf_7cf53, Cond.selects RJ0 yJ0_indexOf_7cf53 yJ0_indexOf_7cf53, Cond.code yJ0_indexOf_7cf53 cJ0_indexOf_7cf53 3 (some .int), Cond.fieldLink RJ0 9 "java/lang/String" "value" "[B"]
def wsX5_lay_r3 : List Cond := [Cond.methodLink RJ0 492 yJ0_isLatin1_aae02, Cond.instanceMethod yJ0_isLatin1_aae02, Cond.selects RJ0 yJ0_isLatin1_aae02 yJ0_isLatin1_aae02, Cond.code yJ0_isLatin1_aae02 cJ0_isLatin1_aae02 1 (some .boolean), Cond.fieldLink RJ0 38 "java/lang/String" "COMPACT_STRINGS" "Z", Cond.fieldLink RJ0 15 "java/lang/String" "coder" "B", Cond.methodLink RJ0 505 yJ0_length_8abf5, Cond.instanceMethod yJ0_length_8abf5, Cond.selects RJ0 yJ0_length_8abf5 yJ0_length_8abf5, Cond.code yJ0_length_8abf5 cJ0_length_8abf5 1 (some .int), Cond.methodLink RJ0 335 yJ0_coder_7d493, Cond.instanceMethod yJ0_coder_7d493, Cond.selects RJ0 yJ0_coder_7d493 yJ0_coder_7d493, Cond.code yJ0_coder_7d493 cJ0_coder_7d493 1 (some .byte), Cond.methodLink RJ0 637 yJ1_indexOf_4cfef, Cond.static yJ1_indexOf_4cfef, Cond.initialized RJ1, Cond.code yJ1_indexOf_4cfef cJ1_indexOf_4cfef 4 (some .int), Cond.methodLink RJ1 92 Lib.Math.max.name, Cond.static Lib.Math.max.name, Cond.initialized "java/lang/Math", Cond.code Lib.Math.max.name Lib.Math.max.code 2 (some .int), Cond.methodLink RJ1 38 Lib.Math.min.name, Cond.static Lib.Math.min.name]
def wsX5_lay_r4 : List Cond := [Cond.code Lib.Math.min.name Lib.Math.min.code 2 (some .int), Cond.methodLink RJ1 88 yJ1_canEncode_9a6ad, Cond.static yJ1_canEncode_9a6ad, Cond.code yJ1_canEncode_9a6ad cJ1_canEncode_9a6ad 1 (some .boolean), Cond.methodLink RJ1 95 yJ1_indexOfChar_4cfef, Cond.static yJ1_indexOfChar_4cfef, Cond.code yJ1_indexOfChar_4cfef cJ1_indexOfChar_4cfef 6 (some .int), Cond.methodLink RJ0 640 yJ2_indexOf_4cfef, Cond.static yJ2_indexOf_4cfef, Cond.initialized RJ2, Cond.code yJ2_indexOf_4cfef cJ2_indexOf_4cfef 4 (some .int), Cond.methodLink RJ2 224 Lib.Math.max.name, Cond.methodLink RJ2 183 Lib.Math.min.name, Cond.constant RJ2 227 (65536), Cond.methodLink RJ2 228 yJ2_indexOfChar_4cfef, Cond.static yJ2_indexOfChar_4cfef, Cond.code yJ2_indexOfChar_4cfef cJ2_indexOfChar_4cfef 4 (some .int), Cond.methodLink RJ2 96 yJ2_checkBoundsBeginEnd_d044e, Cond.static yJ2_checkBoundsBeginEnd_d044e, Cond.code yJ2_checkBoundsBeginEnd_d044e cJ2_checkBoundsBeginEnd_d044e 3 none, Cond.methodLink RJ2 48 yJ2_length_9d52b, Cond.static yJ2_length_9d52b, Cond.code yJ2_length_9d52b cJ2_length_9d52b 1 (some .int), Cond.methodLink RJ2 241 yJ0_checkBoundsBeginEnd_23922]
def wsX5_lay_r5 : List Cond := [Cond.static yJ0_checkBoundsBeginEnd_23922, Cond.code yJ0_checkBoundsBeginEnd_23922 cJ0_checkBoundsBeginEnd_23922 3 none, Cond.fieldLink RJ0 1053 "jdk/internal/util/Preconditions" "SIOOBE_FORMATTER" "Ljava/util/function/BiFunction;", Cond.methodLink RJ0 1062 yJ3_checkFromToIndex_8c36e, Cond.static yJ3_checkFromToIndex_8c36e, Cond.initialized RJ3, Cond.code yJ3_checkFromToIndex_8c36e cJ3_checkFromToIndex_8c36e 4 (some .int), Cond.methodLink RJ2 244 yJ2_indexOfCharUnsafe_4cfef, Cond.static yJ2_indexOfCharUnsafe_4cfef, Cond.code yJ2_indexOfCharUnsafe_4cfef cJ2_indexOfCharUnsafe_4cfef 5 (some .int), Cond.methodLink RJ2 71 yJ2_getChar_3b067, Cond.static yJ2_getChar_3b067, Cond.code yJ2_getChar_3b067 cJ2_getChar_3b067 2 (some .char), Cond.fieldLink RJ2 44 "java/lang/StringUTF16" "$assertionsDisabled" "Z", Cond.fieldLink RJ2 59 "java/lang/StringUTF16" "HI_BYTE_SHIFT" "I", Cond.fieldLink RJ2 63 "java/lang/StringUTF16" "LO_BYTE_SHIFT" "I", Cond.methodLink RJ2 232 yJ2_indexOfSupplementary_4cfef, Cond.static yJ2_indexOfSupplementary_4cfef, Cond.code yJ2_indexOfSupplementary_4cfef cJ2_indexOfSupplementary_4cfef 7 (some .int), Cond.methodLink RJ2 164 yJ11_isValidCodePoint_9a6ad, Cond.static yJ11_isValidCodePoint_9a6ad, Cond.initialized RJ11, Cond.code yJ11_isValidCodePoint_9a6ad cJ11_isValidCodePoint_9a6ad 2 (some .boolean), Cond.methodLink RJ2 157 yJ11_highSurrogate_5068e]
def wsX5_lay_r6 : List Cond := [Cond.static yJ11_highSurrogate_5068e, Cond.code yJ11_highSurrogate_5068e cJ11_highSurrogate_5068e 1 (some .char), Cond.constant RJ11 110 (55232), Cond.methodLink RJ2 161 yJ11_lowSurrogate_5068e, Cond.static yJ11_lowSurrogate_5068e, Cond.code yJ11_lowSurrogate_5068e cJ11_lowSurrogate_5068e 1 (some .char), Cond.constant RJ11 76 (56320), Cond.methodLink RX3 50 yX2_tell, Cond.instanceMethod yX2_tell, Cond.selects RX2 yX2_tell yX2_tell, Cond.code yX2_tell cX2_tell 3 none, Cond.fieldLink RX2 9 "MirrorShares$Room" "kinds" "[I", Cond.methodLink RX2 35 yX2_cells, Cond.methodLink RX3 54 yX2_isOverfull, Cond.instanceMethod yX2_isOverfull, Cond.selects RX2 yX2_isOverfull yX2_isOverfull, Cond.code yX2_isOverfull cX2_isOverfull 1 (some .boolean), Cond.methodLink RX2 42 yX2_countKinds, Cond.instanceMethod yX2_countKinds, Cond.selects RX2 yX2_countKinds yX2_countKinds, Cond.code yX2_countKinds cX2_countKinds 6 (some .int), Cond.methodLink RX2 38 yX2_kindAt, Cond.instanceMethod yX2_kindAt, Cond.selects RX2 yX2_kindAt yX2_kindAt]
def wsX5_lay_r7 : List Cond := [Cond.code yX2_kindAt cX2_kindAt 2 (some .int), Cond.methodLink RX5 63 yX2_become, Cond.instanceMethod yX2_become, Cond.selects RX2 yX2_become yX2_become, Cond.code yX2_become cX2_become 2 none, Cond.methodLink RX2 25 arraycopyName, Cond.native arraycopyName, Cond.static arraycopyName, Cond.initialized "java/lang/System", Cond.methodLink RX5 67 yX1_forget, Cond.instanceMethod yX1_forget, Cond.selects RX1 yX1_forget yX1_forget, Cond.initialized RX1, Cond.code yX1_forget cX1_forget 1 none, Cond.fieldLink RX1 15 "MirrorShares$Past" "size" "I", Cond.methodLink RX5 70 yX2_cells]
def wsX5_lay : List Cond := .code yX5_lay cX5_lay 1 (some .int) :: ((wsX5_lay_r1 ++ (wsX5_lay_r2 ++ (wsX5_lay_r3 ++ (wsX5_lay_r4 ++ (wsX5_lay_r5 ++ (wsX5_lay_r6 ++ wsX5_lay_r7)))))) ++ wsX50 ++ wsX20 ++ wsX30 ++ wsX10)
def wsX5_tryCell : List Cond := .code yX5_tryCell cX5_tryCell 3 none :: ([.fieldLink RX5 23 "MirrorShares" "trial" "LMirrorShares$Room;", .fieldLink RX5 19 "MirrorShares" "room" "LMirrorShares$Room;", .methodLink RX5 63 yX2_become, .instanceMethod yX2_become, .selects RX2 yX2_become yX2_become, .initialized RX2, .code yX2_become cX2_become 2 none, .fieldLink RX2 15 "MirrorShares$Room" "columns" "I", .fieldLink RX2 19 "MirrorShares$Room" "rows" "I", .fieldLink RX2 9 "MirrorShares$Room" "kinds" "[I", .methodLink RX2 25 arraycopyName, .native arraycopyName, .static arraycopyName, .initialized "java/lang/System", .methodLink RX5 120 yX2_tell, .instanceMethod yX2_tell, .selects RX2 yX2_tell yX2_tell, .code yX2_tell cX2_tell 3 none, .methodLink RX2 35 yX2_cells, .instanceMethod yX2_cells, .selects RX2 yX2_cells yX2_cells, .code yX2_cells cX2_cells 1 (some .int)] ++ wsX50 ++ wsX20)
def wsX5_change_r1 : List Cond := [Cond.fieldLink RX5 29 "MirrorShares" "past" "LMirrorShares$Past;", Cond.fieldLink RX5 19 "MirrorShares" "room" "LMirrorShares$Room;", Cond.methodLink RX5 123 yX1_rememberKind, Cond.instanceMethod yX1_rememberKind, Cond.selects RX1 yX1_rememberKind yX1_rememberKind, Cond.initialized RX1, Cond.code yX1_rememberKind cX1_rememberKind 3 none, Cond.methodLink RX1 19 yX1_remember, Cond.instanceMethod yX1_remember, Cond.selects RX1 yX1_remember yX1_remember, Cond.code yX1_remember cX1_remember 2 none, Cond.fieldLink RX1 15 "MirrorShares$Past" "size" "I", Cond.fieldLink RX1 9 "MirrorShares$Past" "changes" "[I", Cond.methodLink RX1 23 arraycopyName, Cond.native arraycopyName, Cond.static arraycopyName, Cond.initialized "java/lang/System", Cond.methodLink RX5 120 yX2_tell, Cond.instanceMethod yX2_tell, Cond.selects RX2 yX2_tell yX2_tell, Cond.initialized RX2, Cond.code yX2_tell cX2_tell 3 none, Cond.fieldLink RX2 9 "MirrorShares$Room" "kinds" "[I", Cond.methodLink RX2 35 yX2_cells]
def wsX5_change_r2 : List Cond := [Cond.instanceMethod yX2_cells, Cond.selects RX2 yX2_cells yX2_cells, Cond.code yX2_cells cX2_cells 1 (some .int), Cond.fieldLink RX2 15 "MirrorShares$Room" "columns" "I", Cond.fieldLink RX2 19 "MirrorShares$Room" "rows" "I"]
def wsX5_change : List Cond := .code yX5_change cX5_change 4 none :: ((wsX5_change_r1 ++ wsX5_change_r2) ++ wsX50 ++ wsX10 ++ wsX20)
def wsX5_put_r1 : List Cond := [Cond.fieldLink RX5 19 "MirrorShares" "room" "LMirrorShares$Room;", Cond.fieldLink RX5 23 "MirrorShares" "trial" "LMirrorShares$Room;", Cond.methodLink RX5 73 yX2_kindAt, Cond.instanceMethod yX2_kindAt, Cond.selects RX2 yX2_kindAt yX2_kindAt, Cond.initialized RX2, Cond.code yX2_kindAt cX2_kindAt 2 (some .int), Cond.fieldLink RX2 9 "MirrorShares$Room" "kinds" "[I", Cond.methodLink RX2 35 yX2_cells, Cond.instanceMethod yX2_cells, Cond.selects RX2 yX2_cells yX2_cells, Cond.code yX2_cells cX2_cells 1 (some .int), Cond.fieldLink RX2 15 "MirrorShares$Room" "columns" "I", Cond.fieldLink RX2 19 "MirrorShares$Room" "rows" "I", Cond.methodLink RX5 76 yX5_tryCell, Cond.instanceMethod yX5_tryCell, Cond.selects RX5 yX5_tryCell yX5_tryCell, Cond.initialized RX5, Cond.code yX5_tryCell cX5_tryCell 3 none, Cond.methodLink RX5 63 yX2_become, Cond.instanceMethod yX2_become, Cond.selects RX2 yX2_become yX2_become, Cond.code yX2_become cX2_become 2 none, Cond.methodLink RX2 25 arraycopyName]
def wsX5_put_r2 : List Cond := [Cond.native arraycopyName, Cond.static arraycopyName, Cond.initialized "java/lang/System", Cond.methodLink RX5 120 yX2_tell, Cond.instanceMethod yX2_tell, Cond.selects RX2 yX2_tell yX2_tell, Cond.code yX2_tell cX2_tell 3 none, Cond.methodLink RX5 80 yX2_isOverfull, Cond.instanceMethod yX2_isOverfull, Cond.selects RX2 yX2_isOverfull yX2_isOverfull, Cond.code yX2_isOverfull cX2_isOverfull 1 (some .boolean), Cond.methodLink RX2 42 yX2_countKinds, Cond.instanceMethod yX2_countKinds, Cond.selects RX2 yX2_countKinds yX2_countKinds, Cond.code yX2_countKinds cX2_countKinds 6 (some .int), Cond.methodLink RX2 38 yX2_kindAt, Cond.methodLink RX5 84 yX5_change, Cond.instanceMethod yX5_change, Cond.selects RX5 yX5_change yX5_change, Cond.code yX5_change cX5_change 4 none, Cond.fieldLink RX5 29 "MirrorShares" "past" "LMirrorShares$Past;", Cond.methodLink RX5 123 yX1_rememberKind, Cond.instanceMethod yX1_rememberKind, Cond.selects RX1 yX1_rememberKind yX1_rememberKind]
def wsX5_put_r3 : List Cond := [Cond.initialized RX1, Cond.code yX1_rememberKind cX1_rememberKind 3 none, Cond.methodLink RX1 19 yX1_remember, Cond.instanceMethod yX1_remember, Cond.selects RX1 yX1_remember yX1_remember, Cond.code yX1_remember cX1_remember 2 none, Cond.fieldLink RX1 15 "MirrorShares$Past" "size" "I", Cond.fieldLink RX1 9 "MirrorShares$Past" "changes" "[I", Cond.methodLink RX1 23 arraycopyName]
def wsX5_put : List Cond := .code yX5_put cX5_put 4 (some .int) :: ((wsX5_put_r1 ++ (wsX5_put_r2 ++ wsX5_put_r3)) ++ wsX50 ++ wsX20 ++ wsX10)
def wsX5_isPart : List Cond := .code yX5_isPart cX5_isPart 2 (some .boolean) :: ([])
def wsX5_door_r1 : List Cond := [Cond.fieldLink RX5 19 "MirrorShares" "room" "LMirrorShares$Room;", Cond.methodLink RX5 88 yX2_doorCell, Cond.instanceMethod yX2_doorCell, Cond.selects RX2 yX2_doorCell yX2_doorCell, Cond.initialized RX2, Cond.code yX2_doorCell cX2_doorCell 4 (some .int), Cond.methodLink RX2 35 yX2_cells, Cond.instanceMethod yX2_cells, Cond.selects RX2 yX2_cells yX2_cells, Cond.code yX2_cells cX2_cells 1 (some .int), Cond.fieldLink RX2 15 "MirrorShares$Room" "columns" "I", Cond.fieldLink RX2 19 "MirrorShares$Room" "rows" "I", Cond.methodLink RX2 38 yX2_kindAt, Cond.instanceMethod yX2_kindAt, Cond.selects RX2 yX2_kindAt yX2_kindAt, Cond.code yX2_kindAt cX2_kindAt 2 (some .int), Cond.fieldLink RX2 9 "MirrorShares$Room" "kinds" "[I", Cond.methodLink RX5 91 yX5_isPart, Cond.static yX5_isPart, Cond.initialized RX5, Cond.code yX5_isPart cX5_isPart 2 (some .boolean), Cond.methodLink RX5 73 yX2_kindAt, Cond.methodLink RX5 84 yX5_change, Cond.instanceMethod yX5_change]
def wsX5_door_r2 : List Cond := [Cond.selects RX5 yX5_change yX5_change, Cond.code yX5_change cX5_change 4 none, Cond.fieldLink RX5 29 "MirrorShares" "past" "LMirrorShares$Past;", Cond.methodLink RX5 123 yX1_rememberKind, Cond.instanceMethod yX1_rememberKind, Cond.selects RX1 yX1_rememberKind yX1_rememberKind, Cond.initialized RX1, Cond.code yX1_rememberKind cX1_rememberKind 3 none, Cond.methodLink RX1 19 yX1_remember, Cond.instanceMethod yX1_remember, Cond.selects RX1 yX1_remember yX1_remember, Cond.code yX1_remember cX1_remember 2 none, Cond.fieldLink RX1 15 "MirrorShares$Past" "size" "I", Cond.fieldLink RX1 9 "MirrorShares$Past" "changes" "[I", Cond.methodLink RX1 23 arraycopyName, Cond.native arraycopyName, Cond.static arraycopyName, Cond.initialized "java/lang/System", Cond.methodLink RX5 120 yX2_tell, Cond.instanceMethod yX2_tell, Cond.selects RX2 yX2_tell yX2_tell, Cond.code yX2_tell cX2_tell 3 none, Cond.methodLink RX5 95 yX2_countKinds, Cond.instanceMethod yX2_countKinds]
def wsX5_door_r3 : List Cond := [Cond.selects RX2 yX2_countKinds yX2_countKinds, Cond.code yX2_countKinds cX2_countKinds 6 (some .int)]
def wsX5_door : List Cond := .code yX5_door cX5_door 6 (some .int) :: ((wsX5_door_r1 ++ (wsX5_door_r2 ++ wsX5_door_r3)) ++ wsX50 ++ wsX20 ++ wsX10)
def wsX5_turnRoom_r1 : List Cond := [Cond.fieldLink RX5 23 "MirrorShares" "trial" "LMirrorShares$Room;", Cond.fieldLink RX5 19 "MirrorShares" "room" "LMirrorShares$Room;", Cond.methodLink RX5 126 yX2_becomeTurned, Cond.instanceMethod yX2_becomeTurned, Cond.selects RX2 yX2_becomeTurned yX2_becomeTurned, Cond.initialized RX2, Cond.code yX2_becomeTurned cX2_becomeTurned 5 none, Cond.fieldLink RX2 19 "MirrorShares$Room" "rows" "I", Cond.fieldLink RX2 15 "MirrorShares$Room" "columns" "I", Cond.methodLink RX2 38 yX2_kindAt, Cond.instanceMethod yX2_kindAt, Cond.selects RX2 yX2_kindAt yX2_kindAt, Cond.code yX2_kindAt cX2_kindAt 2 (some .int), Cond.fieldLink RX2 9 "MirrorShares$Room" "kinds" "[I", Cond.methodLink RX2 35 yX2_cells, Cond.instanceMethod yX2_cells, Cond.selects RX2 yX2_cells yX2_cells, Cond.code yX2_cells cX2_cells 1 (some .int), Cond.methodLink RX2 49 yX2_turnedKind, Cond.static yX2_turnedKind, Cond.code yX2_turnedKind cX2_turnedKind 1 (some .int), Cond.methodLink RX2 52 yX2_tell, Cond.instanceMethod yX2_tell, Cond.selects RX2 yX2_tell yX2_tell]
def wsX5_turnRoom_r2 : List Cond := [Cond.code yX2_tell cX2_tell 3 none, Cond.methodLink RX5 63 yX2_become, Cond.instanceMethod yX2_become, Cond.selects RX2 yX2_become yX2_become, Cond.code yX2_become cX2_become 2 none, Cond.methodLink RX2 25 arraycopyName, Cond.native arraycopyName, Cond.static arraycopyName, Cond.initialized "java/lang/System"]
def wsX5_turnRoom : List Cond := .code yX5_turnRoom cX5_turnRoom 1 none :: ((wsX5_turnRoom_r1 ++ wsX5_turnRoom_r2) ++ wsX50 ++ wsX20)
def wsX5_turn_r1 : List Cond := [Cond.fieldLink RX5 19 "MirrorShares" "room" "LMirrorShares$Room;", Cond.fieldLink RX5 29 "MirrorShares" "past" "LMirrorShares$Past;", Cond.methodLink RX5 102 yX5_turnRoom, Cond.instanceMethod yX5_turnRoom, Cond.selects RX5 yX5_turnRoom yX5_turnRoom, Cond.initialized RX5, Cond.code yX5_turnRoom cX5_turnRoom 1 none, Cond.fieldLink RX5 23 "MirrorShares" "trial" "LMirrorShares$Room;", Cond.methodLink RX5 126 yX2_becomeTurned, Cond.instanceMethod yX2_becomeTurned, Cond.selects RX2 yX2_becomeTurned yX2_becomeTurned, Cond.initialized RX2, Cond.code yX2_becomeTurned cX2_becomeTurned 5 none, Cond.fieldLink RX2 19 "MirrorShares$Room" "rows" "I", Cond.fieldLink RX2 15 "MirrorShares$Room" "columns" "I", Cond.methodLink RX2 38 yX2_kindAt, Cond.instanceMethod yX2_kindAt, Cond.selects RX2 yX2_kindAt yX2_kindAt, Cond.code yX2_kindAt cX2_kindAt 2 (some .int), Cond.fieldLink RX2 9 "MirrorShares$Room" "kinds" "[I", Cond.methodLink RX2 35 yX2_cells, Cond.instanceMethod yX2_cells, Cond.selects RX2 yX2_cells yX2_cells, Cond.code yX2_cells cX2_cells 1 (some .int)]
def wsX5_turn_r2 : List Cond := [Cond.methodLink RX2 49 yX2_turnedKind, Cond.static yX2_turnedKind, Cond.code yX2_turnedKind cX2_turnedKind 1 (some .int), Cond.methodLink RX2 52 yX2_tell, Cond.instanceMethod yX2_tell, Cond.selects RX2 yX2_tell yX2_tell, Cond.code yX2_tell cX2_tell 3 none, Cond.methodLink RX5 63 yX2_become, Cond.instanceMethod yX2_become, Cond.selects RX2 yX2_become yX2_become, Cond.code yX2_become cX2_become 2 none, Cond.methodLink RX2 25 arraycopyName, Cond.native arraycopyName, Cond.static arraycopyName, Cond.initialized "java/lang/System", Cond.methodLink RX5 105 yX1_rememberTurn, Cond.instanceMethod yX1_rememberTurn, Cond.selects RX1 yX1_rememberTurn yX1_rememberTurn, Cond.initialized RX1, Cond.code yX1_rememberTurn cX1_rememberTurn 1 none, Cond.methodLink RX1 19 yX1_remember, Cond.instanceMethod yX1_remember, Cond.selects RX1 yX1_remember yX1_remember, Cond.code yX1_remember cX1_remember 2 none]
def wsX5_turn_r3 : List Cond := [Cond.fieldLink RX1 15 "MirrorShares$Past" "size" "I", Cond.fieldLink RX1 9 "MirrorShares$Past" "changes" "[I", Cond.methodLink RX1 23 arraycopyName]
def wsX5_turn : List Cond := .code yX5_turn cX5_turn 1 (some .int) :: ((wsX5_turn_r1 ++ (wsX5_turn_r2 ++ wsX5_turn_r3)) ++ wsX50 ++ wsX20 ++ wsX10)
def wsX5_undo_r1 : List Cond := [Cond.fieldLink RX5 29 "MirrorShares" "past" "LMirrorShares$Past;", Cond.fieldLink RX5 19 "MirrorShares" "room" "LMirrorShares$Room;", Cond.methodLink RX5 111 yX1_takeLatest, Cond.instanceMethod yX1_takeLatest, Cond.selects RX1 yX1_takeLatest yX1_takeLatest, Cond.initialized RX1, Cond.code yX1_takeLatest cX1_takeLatest 1 (some .int), Cond.fieldLink RX1 15 "MirrorShares$Past" "size" "I", Cond.fieldLink RX1 9 "MirrorShares$Past" "changes" "[I", Cond.methodLink RX5 102 yX5_turnRoom, Cond.instanceMethod yX5_turnRoom, Cond.selects RX5 yX5_turnRoom yX5_turnRoom, Cond.initialized RX5, Cond.code yX5_turnRoom cX5_turnRoom 1 none, Cond.fieldLink RX5 23 "MirrorShares" "trial" "LMirrorShares$Room;", Cond.methodLink RX5 126 yX2_becomeTurned, Cond.instanceMethod yX2_becomeTurned, Cond.selects RX2 yX2_becomeTurned yX2_becomeTurned, Cond.initialized RX2, Cond.code yX2_becomeTurned cX2_becomeTurned 5 none, Cond.fieldLink RX2 19 "MirrorShares$Room" "rows" "I", Cond.fieldLink RX2 15 "MirrorShares$Room" "columns" "I", Cond.methodLink RX2 38 yX2_kindAt, Cond.instanceMethod yX2_kindAt]
def wsX5_undo_r2 : List Cond := [Cond.selects RX2 yX2_kindAt yX2_kindAt, Cond.code yX2_kindAt cX2_kindAt 2 (some .int), Cond.fieldLink RX2 9 "MirrorShares$Room" "kinds" "[I", Cond.methodLink RX2 35 yX2_cells, Cond.instanceMethod yX2_cells, Cond.selects RX2 yX2_cells yX2_cells, Cond.code yX2_cells cX2_cells 1 (some .int), Cond.methodLink RX2 49 yX2_turnedKind, Cond.static yX2_turnedKind, Cond.code yX2_turnedKind cX2_turnedKind 1 (some .int), Cond.methodLink RX2 52 yX2_tell, Cond.instanceMethod yX2_tell, Cond.selects RX2 yX2_tell yX2_tell, Cond.code yX2_tell cX2_tell 3 none, Cond.methodLink RX5 63 yX2_become, Cond.instanceMethod yX2_become, Cond.selects RX2 yX2_become yX2_become, Cond.code yX2_become cX2_become 2 none, Cond.methodLink RX2 25 arraycopyName, Cond.native arraycopyName, Cond.static arraycopyName, Cond.initialized "java/lang/System", Cond.methodLink RX5 114 yX1_cellOf, Cond.static yX1_cellOf]
def wsX5_undo_r3 : List Cond := [Cond.code yX1_cellOf cX1_cellOf 1 (some .int), Cond.methodLink RX5 117 yX1_kindOf, Cond.static yX1_kindOf, Cond.code yX1_kindOf cX1_kindOf 1 (some .int), Cond.methodLink RX5 120 yX2_tell]
def wsX5_undo : List Cond := .code yX5_undo cX5_undo 2 (some .int) :: ((wsX5_undo_r1 ++ (wsX5_undo_r2 ++ wsX5_undo_r3)) ++ wsX50 ++ wsX10 ++ wsX20)
def wsX5_cell : List Cond := .code yX5_cell cX5_cell 2 (some .int) :: ([.fieldLink RX5 19 "MirrorShares" "room" "LMirrorShares$Room;", .methodLink RX5 73 yX2_kindAt, .instanceMethod yX2_kindAt, .selects RX2 yX2_kindAt yX2_kindAt, .initialized RX2, .code yX2_kindAt cX2_kindAt 2 (some .int), .fieldLink RX2 9 "MirrorShares$Room" "kinds" "[I", .methodLink RX2 35 yX2_cells, .instanceMethod yX2_cells, .selects RX2 yX2_cells yX2_cells, .code yX2_cells cX2_cells 1 (some .int), .fieldLink RX2 15 "MirrorShares$Room" "columns" "I", .fieldLink RX2 19 "MirrorShares$Room" "rows" "I"] ++ wsX50 ++ wsX20)
def wsX5_doorAt : List Cond := .code yX5_doorAt cX5_doorAt 2 (some .int) :: ([.fieldLink RX5 19 "MirrorShares" "room" "LMirrorShares$Room;", .methodLink RX5 88 yX2_doorCell, .instanceMethod yX2_doorCell, .selects RX2 yX2_doorCell yX2_doorCell, .initialized RX2, .code yX2_doorCell cX2_doorCell 4 (some .int), .methodLink RX2 35 yX2_cells, .instanceMethod yX2_cells, .selects RX2 yX2_cells yX2_cells, .code yX2_cells cX2_cells 1 (some .int), .fieldLink RX2 15 "MirrorShares$Room" "columns" "I", .fieldLink RX2 19 "MirrorShares$Room" "rows" "I", .methodLink RX2 38 yX2_kindAt, .instanceMethod yX2_kindAt, .selects RX2 yX2_kindAt yX2_kindAt, .code yX2_kindAt cX2_kindAt 2 (some .int), .fieldLink RX2 9 "MirrorShares$Room" "kinds" "[I"] ++ wsX50 ++ wsX20)
def wsX5_port_r1 : List Cond := [Cond.fieldLink RX5 19 "MirrorShares" "room" "LMirrorShares$Room;", Cond.methodLink RX5 129 yX2_hasPort, Cond.instanceMethod yX2_hasPort, Cond.selects RX2 yX2_hasPort yX2_hasPort, Cond.initialized RX2, Cond.code yX2_hasPort cX2_hasPort 2 (some .boolean), Cond.methodLink RX2 31 yX2_ports, Cond.instanceMethod yX2_ports, Cond.selects RX2 yX2_ports yX2_ports, Cond.code yX2_ports cX2_ports 1 (some .int), Cond.fieldLink RX2 15 "MirrorShares$Room" "columns" "I", Cond.fieldLink RX2 19 "MirrorShares$Room" "rows" "I", Cond.methodLink RX5 91 yX5_isPart, Cond.static yX5_isPart, Cond.initialized RX5, Cond.code yX5_isPart cX5_isPart 2 (some .boolean), Cond.methodLink RX5 133 yX2_portCell, Cond.instanceMethod yX2_portCell, Cond.selects RX2 yX2_portCell yX2_portCell, Cond.code yX2_portCell cX2_portCell 2 (some .int), Cond.methodLink RX2 46 yX2_portDirection, Cond.instanceMethod yX2_portDirection, Cond.selects RX2 yX2_portDirection yX2_portDirection, Cond.code yX2_portDirection cX2_portDirection 2 (some .int)]
def wsX5_port_r2 : List Cond := [Cond.methodLink RX5 136 yX2_portDirection]
def wsX5_port : List Cond := .code yX5_port cX5_port 3 (some .int) :: ((wsX5_port_r1 ++ wsX5_port_r2) ++ wsX50 ++ wsX20)
def wsX5_hasPorts : List Cond := .code yX5_hasPorts cX5_hasPorts 3 (some .boolean) :: ([.fieldLink RX5 19 "MirrorShares" "room" "LMirrorShares$Room;", .methodLink RX5 129 yX2_hasPort, .instanceMethod yX2_hasPort, .selects RX2 yX2_hasPort yX2_hasPort, .initialized RX2, .code yX2_hasPort cX2_hasPort 2 (some .boolean), .methodLink RX2 31 yX2_ports, .instanceMethod yX2_ports, .selects RX2 yX2_ports yX2_ports, .code yX2_ports cX2_ports 1 (some .int), .fieldLink RX2 15 "MirrorShares$Room" "columns" "I", .fieldLink RX2 19 "MirrorShares$Room" "rows" "I"] ++ wsX50 ++ wsX20)
def wsX5_commonDivisor : List Cond := .code yX5_commonDivisor cX5_commonDivisor 11 (some .long) :: ([])
def wsX5_lowest : List Cond := .code yX5_lowest cX5_lowest 7 (some .int) :: ([.methodLink RX5 204 yX5_commonDivisor, .static yX5_commonDivisor, .initialized RX5, .code yX5_commonDivisor cX5_commonDivisor 11 (some .long)])
def wsX5_share_r1 : List Cond := [Cond.fieldLink RX5 43 "MirrorShares" "beam" "LMirrorShares$Beam;", Cond.fieldLink RX5 19 "MirrorShares" "room" "LMirrorShares$Room;", Cond.methodLink RX5 139 yX5_hasPorts, Cond.instanceMethod yX5_hasPorts, Cond.selects RX5 yX5_hasPorts yX5_hasPorts, Cond.initialized RX5, Cond.code yX5_hasPorts cX5_hasPorts 3 (some .boolean), Cond.methodLink RX5 129 yX2_hasPort, Cond.instanceMethod yX2_hasPort, Cond.selects RX2 yX2_hasPort yX2_hasPort, Cond.initialized RX2, Cond.code yX2_hasPort cX2_hasPort 2 (some .boolean), Cond.methodLink RX2 31 yX2_ports, Cond.instanceMethod yX2_ports, Cond.selects RX2 yX2_ports yX2_ports, Cond.code yX2_ports cX2_ports 1 (some .int), Cond.fieldLink RX2 15 "MirrorShares$Room" "columns" "I", Cond.fieldLink RX2 19 "MirrorShares$Room" "rows" "I", Cond.methodLink RX5 91 yX5_isPart, Cond.static yX5_isPart, Cond.code yX5_isPart cX5_isPart 2 (some .boolean), Cond.methodLink RX5 142 yX0_shine, Cond.instanceMethod yX0_shine, Cond.selects RX0 yX0_shine yX0_shine]
def wsX5_share_r2 : List Cond := [Cond.initialized RX0, Cond.code yX0_shine cX0_shine 4 none, Cond.methodLink RX0 46 yX2_portCell, Cond.instanceMethod yX2_portCell, Cond.selects RX2 yX2_portCell yX2_portCell, Cond.code yX2_portCell cX2_portCell 2 (some .int), Cond.methodLink RX2 46 yX2_portDirection, Cond.instanceMethod yX2_portDirection, Cond.selects RX2 yX2_portDirection yX2_portDirection, Cond.code yX2_portDirection cX2_portDirection 2 (some .int), Cond.methodLink RX0 52 yX2_portDirection, Cond.methodLink RX0 55 yX0_endOf, Cond.static yX0_endOf, Cond.code yX0_endOf cX0_endOf 8 (some .int), Cond.methodLink RX0 85 yX2_kindAt, Cond.instanceMethod yX2_kindAt, Cond.selects RX2 yX2_kindAt yX2_kindAt, Cond.code yX2_kindAt cX2_kindAt 2 (some .int), Cond.fieldLink RX2 9 "MirrorShares$Room" "kinds" "[I", Cond.methodLink RX2 35 yX2_cells, Cond.instanceMethod yX2_cells, Cond.selects RX2 yX2_cells yX2_cells, Cond.code yX2_cells cX2_cells 1 (some .int), Cond.static yX5_isHalf]
def wsX5_share_r3 : List Cond := [Cond.code yX5_isHalf cX5_isHalf 1 (some .boolean), Cond.static yX5_turnedBy, Cond.code yX5_turnedBy cX5_turnedBy 3 (some .int), Cond.static yX5_letsOn, Cond.code yX5_letsOn cX5_letsOn 1 (some .boolean), Cond.methodLink RX5 209 yX5_isHalf, Cond.static yX5_turnsBeam, Cond.code yX5_turnsBeam cX5_turnsBeam 1 (some .boolean), Cond.methodLink RX0 92 yX2_beyond, Cond.instanceMethod yX2_beyond, Cond.selects RX2 yX2_beyond yX2_beyond, Cond.code yX2_beyond cX2_beyond 5 (some .int), Cond.methodLink RX0 59 yX0_findSplits, Cond.instanceMethod yX0_findSplits, Cond.selects RX0 yX0_findSplits yX0_findSplits, Cond.code yX0_findSplits cX0_findSplits 6 none, Cond.fieldLink RX0 15 "MirrorShares$Beam" "splitNumber" "[I", Cond.fieldLink RX0 30 "MirrorShares$Beam" "splits" "I", Cond.fieldLink RX0 11 "MirrorShares$Beam" "splitPlace" "[I", Cond.fieldLink RX0 18 "MirrorShares$Beam" "rayEnd" "[I", Cond.methodLink RX0 73 yJ7_fill_53178, Cond.static yJ7_fill_53178, Cond.initialized RJ7, Cond.code yJ7_fill_53178 cJ7_fill_53178 4 none]
def wsX5_share_r4 : List Cond := [Cond.methodLink RX0 79 yX0_noteSplit, Cond.instanceMethod yX0_noteSplit, Cond.selects RX0 yX0_noteSplit yX0_noteSplit, Cond.code yX0_noteSplit cX0_noteSplit 2 none, Cond.methodLink RX0 82 yX0_endBeyond, Cond.static yX0_endBeyond, Cond.code yX0_endBeyond cX0_endBeyond 4 (some .int), Cond.methodLink RX0 63 yX0_setRows, Cond.instanceMethod yX0_setRows, Cond.selects RX0 yX0_setRows yX0_setRows, Cond.code yX0_setRows cX0_setRows 4 none, Cond.fieldLink RX0 23 "MirrorShares$Beam" "rows" "[[J", Cond.constantLong RX0 108 (2), Cond.methodLink RX0 105 yJ7_fill_d0a16, Cond.static yJ7_fill_d0a16, Cond.code yJ7_fill_d0a16 cJ7_fill_d0a16 5 none, Cond.methodLink RX0 66 yX0_solveRows, Cond.instanceMethod yX0_solveRows, Cond.selects RX0 yX0_solveRows yX0_solveRows, Cond.code yX0_solveRows cX0_solveRows 5 none, Cond.fieldLink RX0 34 "MirrorShares$Beam" "whole" "J", Cond.methodLink RX0 110 yX0_clearColumn, Cond.instanceMethod yX0_clearColumn, Cond.selects RX0 yX0_clearColumn yX0_clearColumn]
def wsX5_share_r5 : List Cond := [Cond.code yX0_clearColumn cX0_clearColumn 7 none, Cond.methodLink RX0 69 yX0_addParts, Cond.instanceMethod yX0_addParts, Cond.selects RX0 yX0_addParts yX0_addParts, Cond.code yX0_addParts cX0_addParts 3 none, Cond.fieldLink RX0 26 "MirrorShares$Beam" "parts" "[J", Cond.methodLink RX0 114 yX0_addPart, Cond.instanceMethod yX0_addPart, Cond.selects RX0 yX0_addPart yX0_addPart, Cond.code yX0_addPart cX0_addPart 4 none, Cond.methodLink RX5 146 yX0_outAt, Cond.instanceMethod yX0_outAt, Cond.selects RX0 yX0_outAt yX0_outAt, Cond.code yX0_outAt cX0_outAt 2 (some .long), Cond.methodLink RX5 154 yX5_lowest, Cond.static yX5_lowest, Cond.code yX5_lowest cX5_lowest 7 (some .int), Cond.methodLink RX5 204 yX5_commonDivisor, Cond.static yX5_commonDivisor, Cond.code yX5_commonDivisor cX5_commonDivisor 11 (some .long)]
def wsX5_share : List Cond := .code yX5_share cX5_share 4 (some .int) :: ((wsX5_share_r1 ++ (wsX5_share_r2 ++ (wsX5_share_r3 ++ (wsX5_share_r4 ++ wsX5_share_r5)))) ++ wsX50 ++ wsX00 ++ wsX20)
def wsX5_lost_r1 : List Cond := [Cond.fieldLink RX5 19 "MirrorShares" "room" "LMirrorShares$Room;", Cond.fieldLink RX5 43 "MirrorShares" "beam" "LMirrorShares$Beam;", Cond.methodLink RX5 129 yX2_hasPort, Cond.instanceMethod yX2_hasPort, Cond.selects RX2 yX2_hasPort yX2_hasPort, Cond.initialized RX2, Cond.code yX2_hasPort cX2_hasPort 2 (some .boolean), Cond.methodLink RX2 31 yX2_ports, Cond.instanceMethod yX2_ports, Cond.selects RX2 yX2_ports yX2_ports, Cond.code yX2_ports cX2_ports 1 (some .int), Cond.fieldLink RX2 15 "MirrorShares$Room" "columns" "I", Cond.fieldLink RX2 19 "MirrorShares$Room" "rows" "I", Cond.methodLink RX5 91 yX5_isPart, Cond.static yX5_isPart, Cond.initialized RX5, Cond.code yX5_isPart cX5_isPart 2 (some .boolean), Cond.methodLink RX5 142 yX0_shine, Cond.instanceMethod yX0_shine, Cond.selects RX0 yX0_shine yX0_shine, Cond.initialized RX0, Cond.code yX0_shine cX0_shine 4 none, Cond.methodLink RX0 46 yX2_portCell, Cond.instanceMethod yX2_portCell]
def wsX5_lost_r2 : List Cond := [Cond.selects RX2 yX2_portCell yX2_portCell, Cond.code yX2_portCell cX2_portCell 2 (some .int), Cond.methodLink RX2 46 yX2_portDirection, Cond.instanceMethod yX2_portDirection, Cond.selects RX2 yX2_portDirection yX2_portDirection, Cond.code yX2_portDirection cX2_portDirection 2 (some .int), Cond.methodLink RX0 52 yX2_portDirection, Cond.methodLink RX0 55 yX0_endOf, Cond.static yX0_endOf, Cond.code yX0_endOf cX0_endOf 8 (some .int), Cond.methodLink RX0 85 yX2_kindAt, Cond.instanceMethod yX2_kindAt, Cond.selects RX2 yX2_kindAt yX2_kindAt, Cond.code yX2_kindAt cX2_kindAt 2 (some .int), Cond.fieldLink RX2 9 "MirrorShares$Room" "kinds" "[I", Cond.methodLink RX2 35 yX2_cells, Cond.instanceMethod yX2_cells, Cond.selects RX2 yX2_cells yX2_cells, Cond.code yX2_cells cX2_cells 1 (some .int), Cond.static yX5_isHalf, Cond.code yX5_isHalf cX5_isHalf 1 (some .boolean), Cond.static yX5_turnedBy, Cond.code yX5_turnedBy cX5_turnedBy 3 (some .int), Cond.static yX5_letsOn]
def wsX5_lost_r3 : List Cond := [Cond.code yX5_letsOn cX5_letsOn 1 (some .boolean), Cond.methodLink RX5 209 yX5_isHalf, Cond.static yX5_turnsBeam, Cond.code yX5_turnsBeam cX5_turnsBeam 1 (some .boolean), Cond.methodLink RX0 92 yX2_beyond, Cond.instanceMethod yX2_beyond, Cond.selects RX2 yX2_beyond yX2_beyond, Cond.code yX2_beyond cX2_beyond 5 (some .int), Cond.methodLink RX0 59 yX0_findSplits, Cond.instanceMethod yX0_findSplits, Cond.selects RX0 yX0_findSplits yX0_findSplits, Cond.code yX0_findSplits cX0_findSplits 6 none, Cond.fieldLink RX0 15 "MirrorShares$Beam" "splitNumber" "[I", Cond.fieldLink RX0 30 "MirrorShares$Beam" "splits" "I", Cond.fieldLink RX0 11 "MirrorShares$Beam" "splitPlace" "[I", Cond.fieldLink RX0 18 "MirrorShares$Beam" "rayEnd" "[I", Cond.methodLink RX0 73 yJ7_fill_53178, Cond.static yJ7_fill_53178, Cond.initialized RJ7, Cond.code yJ7_fill_53178 cJ7_fill_53178 4 none, Cond.methodLink RX0 79 yX0_noteSplit, Cond.instanceMethod yX0_noteSplit, Cond.selects RX0 yX0_noteSplit yX0_noteSplit, Cond.code yX0_noteSplit cX0_noteSplit 2 none]
def wsX5_lost_r4 : List Cond := [Cond.methodLink RX0 82 yX0_endBeyond, Cond.static yX0_endBeyond, Cond.code yX0_endBeyond cX0_endBeyond 4 (some .int), Cond.methodLink RX0 63 yX0_setRows, Cond.instanceMethod yX0_setRows, Cond.selects RX0 yX0_setRows yX0_setRows, Cond.code yX0_setRows cX0_setRows 4 none, Cond.fieldLink RX0 23 "MirrorShares$Beam" "rows" "[[J", Cond.constantLong RX0 108 (2), Cond.methodLink RX0 105 yJ7_fill_d0a16, Cond.static yJ7_fill_d0a16, Cond.code yJ7_fill_d0a16 cJ7_fill_d0a16 5 none, Cond.methodLink RX0 66 yX0_solveRows, Cond.instanceMethod yX0_solveRows, Cond.selects RX0 yX0_solveRows yX0_solveRows, Cond.code yX0_solveRows cX0_solveRows 5 none, Cond.fieldLink RX0 34 "MirrorShares$Beam" "whole" "J", Cond.methodLink RX0 110 yX0_clearColumn, Cond.instanceMethod yX0_clearColumn, Cond.selects RX0 yX0_clearColumn yX0_clearColumn, Cond.code yX0_clearColumn cX0_clearColumn 7 none, Cond.methodLink RX0 69 yX0_addParts, Cond.instanceMethod yX0_addParts, Cond.selects RX0 yX0_addParts yX0_addParts]
def wsX5_lost_r5 : List Cond := [Cond.code yX0_addParts cX0_addParts 3 none, Cond.fieldLink RX0 26 "MirrorShares$Beam" "parts" "[J", Cond.methodLink RX0 114 yX0_addPart, Cond.instanceMethod yX0_addPart, Cond.selects RX0 yX0_addPart yX0_addPart, Cond.code yX0_addPart cX0_addPart 4 none, Cond.methodLink RX5 158 yX0_swallowed, Cond.instanceMethod yX0_swallowed, Cond.selects RX0 yX0_swallowed yX0_swallowed, Cond.code yX0_swallowed cX0_swallowed 1 (some .long), Cond.methodLink RX5 162 yX0_caught, Cond.instanceMethod yX0_caught, Cond.selects RX0 yX0_caught yX0_caught, Cond.code yX0_caught cX0_caught 4 (some .long), Cond.methodLink RX0 38 yX0_swallowed, Cond.methodLink RX0 42 yX0_outAt, Cond.instanceMethod yX0_outAt, Cond.selects RX0 yX0_outAt yX0_outAt, Cond.code yX0_outAt cX0_outAt 2 (some .long), Cond.methodLink RX5 154 yX5_lowest, Cond.static yX5_lowest, Cond.code yX5_lowest cX5_lowest 7 (some .int), Cond.methodLink RX5 204 yX5_commonDivisor, Cond.static yX5_commonDivisor]
def wsX5_lost_r6 : List Cond := [Cond.code yX5_commonDivisor cX5_commonDivisor 11 (some .long)]
def wsX5_lost : List Cond := .code yX5_lost cX5_lost 3 (some .int) :: ((wsX5_lost_r1 ++ (wsX5_lost_r2 ++ (wsX5_lost_r3 ++ (wsX5_lost_r4 ++ (wsX5_lost_r5 ++ wsX5_lost_r6))))) ++ wsX50 ++ wsX00 ++ wsX20)
def wsX5_floatBits : List Cond := .code yX5_floatBits cX5_floatBits 6 (some .int) :: ([.constantFloat RX5 208 (1258291200)])
def wsX5_bits_r1 : List Cond := [Cond.fieldLink RX5 43 "MirrorShares" "beam" "LMirrorShares$Beam;", Cond.fieldLink RX5 19 "MirrorShares" "room" "LMirrorShares$Room;", Cond.methodLink RX5 139 yX5_hasPorts, Cond.instanceMethod yX5_hasPorts, Cond.selects RX5 yX5_hasPorts yX5_hasPorts, Cond.initialized RX5, Cond.code yX5_hasPorts cX5_hasPorts 3 (some .boolean), Cond.methodLink RX5 129 yX2_hasPort, Cond.instanceMethod yX2_hasPort, Cond.selects RX2 yX2_hasPort yX2_hasPort, Cond.initialized RX2, Cond.code yX2_hasPort cX2_hasPort 2 (some .boolean), Cond.methodLink RX2 31 yX2_ports, Cond.instanceMethod yX2_ports, Cond.selects RX2 yX2_ports yX2_ports, Cond.code yX2_ports cX2_ports 1 (some .int), Cond.fieldLink RX2 15 "MirrorShares$Room" "columns" "I", Cond.fieldLink RX2 19 "MirrorShares$Room" "rows" "I", Cond.methodLink RX5 142 yX0_shine, Cond.instanceMethod yX0_shine, Cond.selects RX0 yX0_shine yX0_shine, Cond.initialized RX0, Cond.code yX0_shine cX0_shine 4 none, Cond.methodLink RX0 46 yX2_portCell]
def wsX5_bits_r2 : List Cond := [Cond.instanceMethod yX2_portCell, Cond.selects RX2 yX2_portCell yX2_portCell, Cond.code yX2_portCell cX2_portCell 2 (some .int), Cond.methodLink RX2 46 yX2_portDirection, Cond.instanceMethod yX2_portDirection, Cond.selects RX2 yX2_portDirection yX2_portDirection, Cond.code yX2_portDirection cX2_portDirection 2 (some .int), Cond.methodLink RX0 52 yX2_portDirection, Cond.methodLink RX0 55 yX0_endOf, Cond.static yX0_endOf, Cond.code yX0_endOf cX0_endOf 8 (some .int), Cond.methodLink RX0 85 yX2_kindAt, Cond.instanceMethod yX2_kindAt, Cond.selects RX2 yX2_kindAt yX2_kindAt, Cond.code yX2_kindAt cX2_kindAt 2 (some .int), Cond.fieldLink RX2 9 "MirrorShares$Room" "kinds" "[I", Cond.methodLink RX2 35 yX2_cells, Cond.instanceMethod yX2_cells, Cond.selects RX2 yX2_cells yX2_cells, Cond.code yX2_cells cX2_cells 1 (some .int), Cond.static yX5_isHalf, Cond.code yX5_isHalf cX5_isHalf 1 (some .boolean), Cond.static yX5_turnedBy, Cond.code yX5_turnedBy cX5_turnedBy 3 (some .int)]
def wsX5_bits_r3 : List Cond := [Cond.static yX5_letsOn, Cond.code yX5_letsOn cX5_letsOn 1 (some .boolean), Cond.methodLink RX5 209 yX5_isHalf, Cond.static yX5_turnsBeam, Cond.code yX5_turnsBeam cX5_turnsBeam 1 (some .boolean), Cond.methodLink RX0 92 yX2_beyond, Cond.instanceMethod yX2_beyond, Cond.selects RX2 yX2_beyond yX2_beyond, Cond.code yX2_beyond cX2_beyond 5 (some .int), Cond.methodLink RX0 59 yX0_findSplits, Cond.instanceMethod yX0_findSplits, Cond.selects RX0 yX0_findSplits yX0_findSplits, Cond.code yX0_findSplits cX0_findSplits 6 none, Cond.fieldLink RX0 15 "MirrorShares$Beam" "splitNumber" "[I", Cond.fieldLink RX0 30 "MirrorShares$Beam" "splits" "I", Cond.fieldLink RX0 11 "MirrorShares$Beam" "splitPlace" "[I", Cond.fieldLink RX0 18 "MirrorShares$Beam" "rayEnd" "[I", Cond.methodLink RX0 73 yJ7_fill_53178, Cond.static yJ7_fill_53178, Cond.initialized RJ7, Cond.code yJ7_fill_53178 cJ7_fill_53178 4 none, Cond.methodLink RX0 79 yX0_noteSplit, Cond.instanceMethod yX0_noteSplit, Cond.selects RX0 yX0_noteSplit yX0_noteSplit]
def wsX5_bits_r4 : List Cond := [Cond.code yX0_noteSplit cX0_noteSplit 2 none, Cond.methodLink RX0 82 yX0_endBeyond, Cond.static yX0_endBeyond, Cond.code yX0_endBeyond cX0_endBeyond 4 (some .int), Cond.methodLink RX0 63 yX0_setRows, Cond.instanceMethod yX0_setRows, Cond.selects RX0 yX0_setRows yX0_setRows, Cond.code yX0_setRows cX0_setRows 4 none, Cond.fieldLink RX0 23 "MirrorShares$Beam" "rows" "[[J", Cond.constantLong RX0 108 (2), Cond.methodLink RX0 105 yJ7_fill_d0a16, Cond.static yJ7_fill_d0a16, Cond.code yJ7_fill_d0a16 cJ7_fill_d0a16 5 none, Cond.methodLink RX0 66 yX0_solveRows, Cond.instanceMethod yX0_solveRows, Cond.selects RX0 yX0_solveRows yX0_solveRows, Cond.code yX0_solveRows cX0_solveRows 5 none, Cond.fieldLink RX0 34 "MirrorShares$Beam" "whole" "J", Cond.methodLink RX0 110 yX0_clearColumn, Cond.instanceMethod yX0_clearColumn, Cond.selects RX0 yX0_clearColumn yX0_clearColumn, Cond.code yX0_clearColumn cX0_clearColumn 7 none, Cond.methodLink RX0 69 yX0_addParts, Cond.instanceMethod yX0_addParts]
def wsX5_bits_r5 : List Cond := [Cond.selects RX0 yX0_addParts yX0_addParts, Cond.code yX0_addParts cX0_addParts 3 none, Cond.fieldLink RX0 26 "MirrorShares$Beam" "parts" "[J", Cond.methodLink RX0 114 yX0_addPart, Cond.instanceMethod yX0_addPart, Cond.selects RX0 yX0_addPart yX0_addPart, Cond.code yX0_addPart cX0_addPart 4 none, Cond.methodLink RX5 146 yX0_outAt, Cond.instanceMethod yX0_outAt, Cond.selects RX0 yX0_outAt yX0_outAt, Cond.code yX0_outAt cX0_outAt 2 (some .long), Cond.methodLink RX5 154 yX5_lowest, Cond.static yX5_lowest, Cond.code yX5_lowest cX5_lowest 7 (some .int), Cond.methodLink RX5 204 yX5_commonDivisor, Cond.static yX5_commonDivisor, Cond.code yX5_commonDivisor cX5_commonDivisor 11 (some .long), Cond.methodLink RX5 165 yX5_floatBits, Cond.static yX5_floatBits, Cond.code yX5_floatBits cX5_floatBits 6 (some .int), Cond.constantFloat RX5 208 (1258291200)]
def wsX5_bits : List Cond := .code yX5_bits cX5_bits 5 (some .int) :: ((wsX5_bits_r1 ++ (wsX5_bits_r2 ++ (wsX5_bits_r3 ++ (wsX5_bits_r4 ++ wsX5_bits_r5)))) ++ wsX50 ++ wsX00 ++ wsX20)
def wsX5_lit_r1 : List Cond := [Cond.fieldLink RX5 19 "MirrorShares" "room" "LMirrorShares$Room;", Cond.fieldLink RX5 36 "MirrorShares" "walk" "LMirrorShares$Walk;", Cond.methodLink RX5 129 yX2_hasPort, Cond.instanceMethod yX2_hasPort, Cond.selects RX2 yX2_hasPort yX2_hasPort, Cond.initialized RX2, Cond.code yX2_hasPort cX2_hasPort 2 (some .boolean), Cond.methodLink RX2 31 yX2_ports, Cond.instanceMethod yX2_ports, Cond.selects RX2 yX2_ports yX2_ports, Cond.code yX2_ports cX2_ports 1 (some .int), Cond.fieldLink RX2 15 "MirrorShares$Room" "columns" "I", Cond.fieldLink RX2 19 "MirrorShares$Room" "rows" "I", Cond.methodLink RX5 168 yX4_goFrom, Cond.instanceMethod yX4_goFrom, Cond.selects RX4 yX4_goFrom yX4_goFrom, Cond.initialized RX4, Cond.code yX4_goFrom cX4_goFrom 4 none, Cond.fieldLink RX4 15 "MirrorShares$Walk" "cellsTo" "[I", Cond.fieldLink RX4 18 "MirrorShares$Walk" "cellsToPort" "[I", Cond.fieldLink RX4 21 "MirrorShares$Walk" "waiting" "I", Cond.fieldLink RX4 25 "MirrorShares$Walk" "litCells" "I", Cond.fieldLink RX4 11 "MirrorShares$Walk" "queue" "[I", Cond.methodLink RX4 28 yJ7_fill_53178]
def wsX5_lit_r2 : List Cond := [Cond.static yJ7_fill_53178, Cond.initialized RJ7, Cond.code yJ7_fill_53178 cJ7_fill_53178 4 none, Cond.methodLink RX4 34 yX2_portCell, Cond.instanceMethod yX2_portCell, Cond.selects RX2 yX2_portCell yX2_portCell, Cond.code yX2_portCell cX2_portCell 2 (some .int), Cond.methodLink RX2 46 yX2_portDirection, Cond.instanceMethod yX2_portDirection, Cond.selects RX2 yX2_portDirection yX2_portDirection, Cond.code yX2_portDirection cX2_portDirection 2 (some .int), Cond.methodLink RX4 40 yX2_portDirection, Cond.methodLink RX4 43 yX4_enter, Cond.instanceMethod yX4_enter, Cond.selects RX4 yX4_enter yX4_enter, Cond.code yX4_enter cX4_enter 5 none, Cond.methodLink RX4 47 yX4_spread, Cond.instanceMethod yX4_spread, Cond.selects RX4 yX4_spread yX4_spread, Cond.code yX4_spread cX4_spread 7 none, Cond.methodLink RX4 51 yX2_kindAt, Cond.instanceMethod yX2_kindAt, Cond.selects RX2 yX2_kindAt yX2_kindAt, Cond.code yX2_kindAt cX2_kindAt 2 (some .int)]
def wsX5_lit_r3 : List Cond := [Cond.fieldLink RX2 9 "MirrorShares$Room" "kinds" "[I", Cond.methodLink RX2 35 yX2_cells, Cond.instanceMethod yX2_cells, Cond.selects RX2 yX2_cells yX2_cells, Cond.code yX2_cells cX2_cells 1 (some .int), Cond.static yX5_letsOn, Cond.initialized RX5, Cond.code yX5_letsOn cX5_letsOn 1 (some .boolean), Cond.methodLink RX5 209 yX5_isHalf, Cond.static yX5_isHalf, Cond.code yX5_isHalf cX5_isHalf 1 (some .boolean), Cond.methodLink RX4 58 yX4_leave, Cond.instanceMethod yX4_leave, Cond.selects RX4 yX4_leave yX4_leave, Cond.code yX4_leave cX4_leave 6 none, Cond.methodLink RX4 69 yX2_beyond, Cond.instanceMethod yX2_beyond, Cond.selects RX2 yX2_beyond yX2_beyond, Cond.code yX2_beyond cX2_beyond 5 (some .int), Cond.methodLink RX4 72 yX4_reach, Cond.instanceMethod yX4_reach, Cond.selects RX4 yX4_reach yX4_reach, Cond.code yX4_reach cX4_reach 3 none, Cond.static yX5_turnsBeam]
def wsX5_lit_r4 : List Cond := [Cond.code yX5_turnsBeam cX5_turnsBeam 1 (some .boolean), Cond.static yX5_turnedBy, Cond.code yX5_turnedBy cX5_turnedBy 3 (some .int)]
def wsX5_lit : List Cond := .code yX5_lit cX5_lit 2 (some .int) :: ((wsX5_lit_r1 ++ (wsX5_lit_r2 ++ (wsX5_lit_r3 ++ wsX5_lit_r4))) ++ wsX50 ++ wsX40 ++ wsX20)
def wsX5_far_r1 : List Cond := [Cond.fieldLink RX5 36 "MirrorShares" "walk" "LMirrorShares$Walk;", Cond.fieldLink RX5 19 "MirrorShares" "room" "LMirrorShares$Room;", Cond.methodLink RX5 139 yX5_hasPorts, Cond.instanceMethod yX5_hasPorts, Cond.selects RX5 yX5_hasPorts yX5_hasPorts, Cond.initialized RX5, Cond.code yX5_hasPorts cX5_hasPorts 3 (some .boolean), Cond.methodLink RX5 129 yX2_hasPort, Cond.instanceMethod yX2_hasPort, Cond.selects RX2 yX2_hasPort yX2_hasPort, Cond.initialized RX2, Cond.code yX2_hasPort cX2_hasPort 2 (some .boolean), Cond.methodLink RX2 31 yX2_ports, Cond.instanceMethod yX2_ports, Cond.selects RX2 yX2_ports yX2_ports, Cond.code yX2_ports cX2_ports 1 (some .int), Cond.fieldLink RX2 15 "MirrorShares$Room" "columns" "I", Cond.fieldLink RX2 19 "MirrorShares$Room" "rows" "I", Cond.methodLink RX5 168 yX4_goFrom, Cond.instanceMethod yX4_goFrom, Cond.selects RX4 yX4_goFrom yX4_goFrom, Cond.initialized RX4, Cond.code yX4_goFrom cX4_goFrom 4 none, Cond.fieldLink RX4 15 "MirrorShares$Walk" "cellsTo" "[I"]
def wsX5_far_r2 : List Cond := [Cond.fieldLink RX4 18 "MirrorShares$Walk" "cellsToPort" "[I", Cond.fieldLink RX4 21 "MirrorShares$Walk" "waiting" "I", Cond.fieldLink RX4 25 "MirrorShares$Walk" "litCells" "I", Cond.fieldLink RX4 11 "MirrorShares$Walk" "queue" "[I", Cond.methodLink RX4 28 yJ7_fill_53178, Cond.static yJ7_fill_53178, Cond.initialized RJ7, Cond.code yJ7_fill_53178 cJ7_fill_53178 4 none, Cond.methodLink RX4 34 yX2_portCell, Cond.instanceMethod yX2_portCell, Cond.selects RX2 yX2_portCell yX2_portCell, Cond.code yX2_portCell cX2_portCell 2 (some .int), Cond.methodLink RX2 46 yX2_portDirection, Cond.instanceMethod yX2_portDirection, Cond.selects RX2 yX2_portDirection yX2_portDirection, Cond.code yX2_portDirection cX2_portDirection 2 (some .int), Cond.methodLink RX4 40 yX2_portDirection, Cond.methodLink RX4 43 yX4_enter, Cond.instanceMethod yX4_enter, Cond.selects RX4 yX4_enter yX4_enter, Cond.code yX4_enter cX4_enter 5 none, Cond.methodLink RX4 47 yX4_spread, Cond.instanceMethod yX4_spread, Cond.selects RX4 yX4_spread yX4_spread]
def wsX5_far_r3 : List Cond := [Cond.code yX4_spread cX4_spread 7 none, Cond.methodLink RX4 51 yX2_kindAt, Cond.instanceMethod yX2_kindAt, Cond.selects RX2 yX2_kindAt yX2_kindAt, Cond.code yX2_kindAt cX2_kindAt 2 (some .int), Cond.fieldLink RX2 9 "MirrorShares$Room" "kinds" "[I", Cond.methodLink RX2 35 yX2_cells, Cond.instanceMethod yX2_cells, Cond.selects RX2 yX2_cells yX2_cells, Cond.code yX2_cells cX2_cells 1 (some .int), Cond.static yX5_letsOn, Cond.code yX5_letsOn cX5_letsOn 1 (some .boolean), Cond.methodLink RX5 209 yX5_isHalf, Cond.static yX5_isHalf, Cond.code yX5_isHalf cX5_isHalf 1 (some .boolean), Cond.methodLink RX4 58 yX4_leave, Cond.instanceMethod yX4_leave, Cond.selects RX4 yX4_leave yX4_leave, Cond.code yX4_leave cX4_leave 6 none, Cond.methodLink RX4 69 yX2_beyond, Cond.instanceMethod yX2_beyond, Cond.selects RX2 yX2_beyond yX2_beyond, Cond.code yX2_beyond cX2_beyond 5 (some .int), Cond.methodLink RX4 72 yX4_reach]
def wsX5_far_r4 : List Cond := [Cond.instanceMethod yX4_reach, Cond.selects RX4 yX4_reach yX4_reach, Cond.code yX4_reach cX4_reach 3 none, Cond.static yX5_turnsBeam, Cond.code yX5_turnsBeam cX5_turnsBeam 1 (some .boolean), Cond.static yX5_turnedBy, Cond.code yX5_turnedBy cX5_turnedBy 3 (some .int), Cond.methodLink RX5 174 yX4_fewestTo, Cond.instanceMethod yX4_fewestTo, Cond.selects RX4 yX4_fewestTo yX4_fewestTo, Cond.code yX4_fewestTo cX4_fewestTo 2 (some .int)]
def wsX5_far : List Cond := .code yX5_far cX5_far 3 (some .int) :: ((wsX5_far_r1 ++ (wsX5_far_r2 ++ (wsX5_far_r3 ++ wsX5_far_r4))) ++ wsX50 ++ wsX20 ++ wsX40)
def wsJ13_compare_74951 : List Cond := .code yJ13_compare_74951 cJ13_compare_74951 4 (some .int) :: ([])
def wsX5_compareFractions : List Cond := .code yX5_compareFractions cX5_compareFractions 8 (some .int) :: ([.methodLink RX5 198 yJ13_compare_74951, .static yJ13_compare_74951, .initialized RJ13, .code yJ13_compare_74951 cJ13_compare_74951 4 (some .int)])
def wsX5_alike_r1 : List Cond := [Cond.fieldLink RX5 43 "MirrorShares" "beam" "LMirrorShares$Beam;", Cond.fieldLink RX5 19 "MirrorShares" "room" "LMirrorShares$Room;", Cond.methodLink RX5 139 yX5_hasPorts, Cond.instanceMethod yX5_hasPorts, Cond.selects RX5 yX5_hasPorts yX5_hasPorts, Cond.initialized RX5, Cond.code yX5_hasPorts cX5_hasPorts 3 (some .boolean), Cond.methodLink RX5 129 yX2_hasPort, Cond.instanceMethod yX2_hasPort, Cond.selects RX2 yX2_hasPort yX2_hasPort, Cond.initialized RX2, Cond.code yX2_hasPort cX2_hasPort 2 (some .boolean), Cond.methodLink RX2 31 yX2_ports, Cond.instanceMethod yX2_ports, Cond.selects RX2 yX2_ports yX2_ports, Cond.code yX2_ports cX2_ports 1 (some .int), Cond.fieldLink RX2 15 "MirrorShares$Room" "columns" "I", Cond.fieldLink RX2 19 "MirrorShares$Room" "rows" "I", Cond.methodLink RX5 142 yX0_shine, Cond.instanceMethod yX0_shine, Cond.selects RX0 yX0_shine yX0_shine, Cond.initialized RX0, Cond.code yX0_shine cX0_shine 4 none, Cond.methodLink RX0 46 yX2_portCell]
def wsX5_alike_r2 : List Cond := [Cond.instanceMethod yX2_portCell, Cond.selects RX2 yX2_portCell yX2_portCell, Cond.code yX2_portCell cX2_portCell 2 (some .int), Cond.methodLink RX2 46 yX2_portDirection, Cond.instanceMethod yX2_portDirection, Cond.selects RX2 yX2_portDirection yX2_portDirection, Cond.code yX2_portDirection cX2_portDirection 2 (some .int), Cond.methodLink RX0 52 yX2_portDirection, Cond.methodLink RX0 55 yX0_endOf, Cond.static yX0_endOf, Cond.code yX0_endOf cX0_endOf 8 (some .int), Cond.methodLink RX0 85 yX2_kindAt, Cond.instanceMethod yX2_kindAt, Cond.selects RX2 yX2_kindAt yX2_kindAt, Cond.code yX2_kindAt cX2_kindAt 2 (some .int), Cond.fieldLink RX2 9 "MirrorShares$Room" "kinds" "[I", Cond.methodLink RX2 35 yX2_cells, Cond.instanceMethod yX2_cells, Cond.selects RX2 yX2_cells yX2_cells, Cond.code yX2_cells cX2_cells 1 (some .int), Cond.static yX5_isHalf, Cond.code yX5_isHalf cX5_isHalf 1 (some .boolean), Cond.static yX5_turnedBy, Cond.code yX5_turnedBy cX5_turnedBy 3 (some .int)]
def wsX5_alike_r3 : List Cond := [Cond.static yX5_letsOn, Cond.code yX5_letsOn cX5_letsOn 1 (some .boolean), Cond.methodLink RX5 209 yX5_isHalf, Cond.static yX5_turnsBeam, Cond.code yX5_turnsBeam cX5_turnsBeam 1 (some .boolean), Cond.methodLink RX0 92 yX2_beyond, Cond.instanceMethod yX2_beyond, Cond.selects RX2 yX2_beyond yX2_beyond, Cond.code yX2_beyond cX2_beyond 5 (some .int), Cond.methodLink RX0 59 yX0_findSplits, Cond.instanceMethod yX0_findSplits, Cond.selects RX0 yX0_findSplits yX0_findSplits, Cond.code yX0_findSplits cX0_findSplits 6 none, Cond.fieldLink RX0 15 "MirrorShares$Beam" "splitNumber" "[I", Cond.fieldLink RX0 30 "MirrorShares$Beam" "splits" "I", Cond.fieldLink RX0 11 "MirrorShares$Beam" "splitPlace" "[I", Cond.fieldLink RX0 18 "MirrorShares$Beam" "rayEnd" "[I", Cond.methodLink RX0 73 yJ7_fill_53178, Cond.static yJ7_fill_53178, Cond.initialized RJ7, Cond.code yJ7_fill_53178 cJ7_fill_53178 4 none, Cond.methodLink RX0 79 yX0_noteSplit, Cond.instanceMethod yX0_noteSplit, Cond.selects RX0 yX0_noteSplit yX0_noteSplit]
def wsX5_alike_r4 : List Cond := [Cond.code yX0_noteSplit cX0_noteSplit 2 none, Cond.methodLink RX0 82 yX0_endBeyond, Cond.static yX0_endBeyond, Cond.code yX0_endBeyond cX0_endBeyond 4 (some .int), Cond.methodLink RX0 63 yX0_setRows, Cond.instanceMethod yX0_setRows, Cond.selects RX0 yX0_setRows yX0_setRows, Cond.code yX0_setRows cX0_setRows 4 none, Cond.fieldLink RX0 23 "MirrorShares$Beam" "rows" "[[J", Cond.constantLong RX0 108 (2), Cond.methodLink RX0 105 yJ7_fill_d0a16, Cond.static yJ7_fill_d0a16, Cond.code yJ7_fill_d0a16 cJ7_fill_d0a16 5 none, Cond.methodLink RX0 66 yX0_solveRows, Cond.instanceMethod yX0_solveRows, Cond.selects RX0 yX0_solveRows yX0_solveRows, Cond.code yX0_solveRows cX0_solveRows 5 none, Cond.fieldLink RX0 34 "MirrorShares$Beam" "whole" "J", Cond.methodLink RX0 110 yX0_clearColumn, Cond.instanceMethod yX0_clearColumn, Cond.selects RX0 yX0_clearColumn yX0_clearColumn, Cond.code yX0_clearColumn cX0_clearColumn 7 none, Cond.methodLink RX0 69 yX0_addParts, Cond.instanceMethod yX0_addParts]
def wsX5_alike_r5 : List Cond := [Cond.selects RX0 yX0_addParts yX0_addParts, Cond.code yX0_addParts cX0_addParts 3 none, Cond.fieldLink RX0 26 "MirrorShares$Beam" "parts" "[J", Cond.methodLink RX0 114 yX0_addPart, Cond.instanceMethod yX0_addPart, Cond.selects RX0 yX0_addPart yX0_addPart, Cond.code yX0_addPart cX0_addPart 4 none, Cond.methodLink RX5 158 yX0_swallowed, Cond.instanceMethod yX0_swallowed, Cond.selects RX0 yX0_swallowed yX0_swallowed, Cond.code yX0_swallowed cX0_swallowed 1 (some .long), Cond.methodLink RX5 162 yX0_caught, Cond.instanceMethod yX0_caught, Cond.selects RX0 yX0_caught yX0_caught, Cond.code yX0_caught cX0_caught 4 (some .long), Cond.methodLink RX0 38 yX0_swallowed, Cond.methodLink RX0 42 yX0_outAt, Cond.instanceMethod yX0_outAt, Cond.selects RX0 yX0_outAt yX0_outAt, Cond.code yX0_outAt cX0_outAt 2 (some .long), Cond.methodLink RX5 177 yX5_compareFractions, Cond.static yX5_compareFractions, Cond.code yX5_compareFractions cX5_compareFractions 8 (some .int), Cond.methodLink RX5 198 yJ13_compare_74951]
def wsX5_alike_r6 : List Cond := [Cond.static yJ13_compare_74951, Cond.initialized RJ13, Cond.code yJ13_compare_74951 cJ13_compare_74951 4 (some .int)]
def wsX5_alike : List Cond := .code yX5_alike cX5_alike 10 (some .int) :: ((wsX5_alike_r1 ++ (wsX5_alike_r2 ++ (wsX5_alike_r3 ++ (wsX5_alike_r4 ++ (wsX5_alike_r5 ++ wsX5_alike_r6))))) ++ wsX50 ++ wsX00 ++ wsX20)
def wsX5_openOnly_r1 : List Cond := [Cond.fieldLink RX5 23 "MirrorShares" "trial" "LMirrorShares$Room;", Cond.fieldLink RX5 19 "MirrorShares" "room" "LMirrorShares$Room;", Cond.methodLink RX5 63 yX2_become, Cond.instanceMethod yX2_become, Cond.selects RX2 yX2_become yX2_become, Cond.initialized RX2, Cond.code yX2_become cX2_become 2 none, Cond.fieldLink RX2 15 "MirrorShares$Room" "columns" "I", Cond.fieldLink RX2 19 "MirrorShares$Room" "rows" "I", Cond.fieldLink RX2 9 "MirrorShares$Room" "kinds" "[I", Cond.methodLink RX2 25 arraycopyName, Cond.native arraycopyName, Cond.static arraycopyName, Cond.initialized "java/lang/System", Cond.methodLink RX5 88 yX2_doorCell, Cond.instanceMethod yX2_doorCell, Cond.selects RX2 yX2_doorCell yX2_doorCell, Cond.code yX2_doorCell cX2_doorCell 4 (some .int), Cond.methodLink RX2 35 yX2_cells, Cond.instanceMethod yX2_cells, Cond.selects RX2 yX2_cells yX2_cells, Cond.code yX2_cells cX2_cells 1 (some .int), Cond.methodLink RX2 38 yX2_kindAt, Cond.instanceMethod yX2_kindAt]
def wsX5_openOnly_r2 : List Cond := [Cond.selects RX2 yX2_kindAt yX2_kindAt, Cond.code yX2_kindAt cX2_kindAt 2 (some .int), Cond.methodLink RX5 120 yX2_tell, Cond.instanceMethod yX2_tell, Cond.selects RX2 yX2_tell yX2_tell, Cond.code yX2_tell cX2_tell 3 none]
def wsX5_openOnly : List Cond := .code yX5_openOnly cX5_openOnly 3 none :: ((wsX5_openOnly_r1 ++ wsX5_openOnly_r2) ++ wsX50 ++ wsX20)
def wsJ6_bitCount_0f7a4 : List Cond := .code yJ6_bitCount_0f7a4 cJ6_bitCount_0f7a4 1 (some .int) :: ([.constant RJ6 265 (1431655765), .constant RJ6 266 (858993459), .constant RJ6 267 (252645135)])
def wsX5_best_r1 : List Cond := [Cond.fieldLink RX5 19 "MirrorShares" "room" "LMirrorShares$Room;", Cond.constantLong RX5 181 (-1), Cond.fieldLink RX5 43 "MirrorShares" "beam" "LMirrorShares$Beam;", Cond.fieldLink RX5 23 "MirrorShares" "trial" "LMirrorShares$Room;", Cond.methodLink RX5 139 yX5_hasPorts, Cond.instanceMethod yX5_hasPorts, Cond.selects RX5 yX5_hasPorts yX5_hasPorts, Cond.initialized RX5, Cond.code yX5_hasPorts cX5_hasPorts 3 (some .boolean), Cond.methodLink RX5 129 yX2_hasPort, Cond.instanceMethod yX2_hasPort, Cond.selects RX2 yX2_hasPort yX2_hasPort, Cond.initialized RX2, Cond.code yX2_hasPort cX2_hasPort 2 (some .boolean), Cond.methodLink RX2 31 yX2_ports, Cond.instanceMethod yX2_ports, Cond.selects RX2 yX2_ports yX2_ports, Cond.code yX2_ports cX2_ports 1 (some .int), Cond.fieldLink RX2 15 "MirrorShares$Room" "columns" "I", Cond.fieldLink RX2 19 "MirrorShares$Room" "rows" "I", Cond.methodLink RX5 91 yX5_isPart, Cond.static yX5_isPart, Cond.code yX5_isPart cX5_isPart 2 (some .boolean), Cond.methodLink RX5 95 yX2_countKinds]
def wsX5_best_r2 : List Cond := [Cond.instanceMethod yX2_countKinds, Cond.selects RX2 yX2_countKinds yX2_countKinds, Cond.code yX2_countKinds cX2_countKinds 6 (some .int), Cond.methodLink RX2 35 yX2_cells, Cond.instanceMethod yX2_cells, Cond.selects RX2 yX2_cells yX2_cells, Cond.code yX2_cells cX2_cells 1 (some .int), Cond.methodLink RX2 38 yX2_kindAt, Cond.instanceMethod yX2_kindAt, Cond.selects RX2 yX2_kindAt yX2_kindAt, Cond.code yX2_kindAt cX2_kindAt 2 (some .int), Cond.fieldLink RX2 9 "MirrorShares$Room" "kinds" "[I", Cond.methodLink RX5 183 yX5_openOnly, Cond.instanceMethod yX5_openOnly, Cond.selects RX5 yX5_openOnly yX5_openOnly, Cond.code yX5_openOnly cX5_openOnly 3 none, Cond.methodLink RX5 63 yX2_become, Cond.instanceMethod yX2_become, Cond.selects RX2 yX2_become yX2_become, Cond.code yX2_become cX2_become 2 none, Cond.methodLink RX2 25 arraycopyName, Cond.native arraycopyName, Cond.static arraycopyName, Cond.initialized "java/lang/System"]
def wsX5_best_r3 : List Cond := [Cond.methodLink RX5 88 yX2_doorCell, Cond.instanceMethod yX2_doorCell, Cond.selects RX2 yX2_doorCell yX2_doorCell, Cond.code yX2_doorCell cX2_doorCell 4 (some .int), Cond.methodLink RX5 120 yX2_tell, Cond.instanceMethod yX2_tell, Cond.selects RX2 yX2_tell yX2_tell, Cond.code yX2_tell cX2_tell 3 none, Cond.methodLink RX5 142 yX0_shine, Cond.instanceMethod yX0_shine, Cond.selects RX0 yX0_shine yX0_shine, Cond.initialized RX0, Cond.code yX0_shine cX0_shine 4 none, Cond.methodLink RX0 46 yX2_portCell, Cond.instanceMethod yX2_portCell, Cond.selects RX2 yX2_portCell yX2_portCell, Cond.code yX2_portCell cX2_portCell 2 (some .int), Cond.methodLink RX2 46 yX2_portDirection, Cond.instanceMethod yX2_portDirection, Cond.selects RX2 yX2_portDirection yX2_portDirection, Cond.code yX2_portDirection cX2_portDirection 2 (some .int), Cond.methodLink RX0 52 yX2_portDirection, Cond.methodLink RX0 55 yX0_endOf, Cond.static yX0_endOf]
def wsX5_best_r4 : List Cond := [Cond.code yX0_endOf cX0_endOf 8 (some .int), Cond.methodLink RX0 85 yX2_kindAt, Cond.static yX5_isHalf, Cond.code yX5_isHalf cX5_isHalf 1 (some .boolean), Cond.static yX5_turnedBy, Cond.code yX5_turnedBy cX5_turnedBy 3 (some .int), Cond.static yX5_letsOn, Cond.code yX5_letsOn cX5_letsOn 1 (some .boolean), Cond.methodLink RX5 209 yX5_isHalf, Cond.static yX5_turnsBeam, Cond.code yX5_turnsBeam cX5_turnsBeam 1 (some .boolean), Cond.methodLink RX0 92 yX2_beyond, Cond.instanceMethod yX2_beyond, Cond.selects RX2 yX2_beyond yX2_beyond, Cond.code yX2_beyond cX2_beyond 5 (some .int), Cond.methodLink RX0 59 yX0_findSplits, Cond.instanceMethod yX0_findSplits, Cond.selects RX0 yX0_findSplits yX0_findSplits, Cond.code yX0_findSplits cX0_findSplits 6 none, Cond.fieldLink RX0 15 "MirrorShares$Beam" "splitNumber" "[I", Cond.fieldLink RX0 30 "MirrorShares$Beam" "splits" "I", Cond.fieldLink RX0 11 "MirrorShares$Beam" "splitPlace" "[I", Cond.fieldLink RX0 18 "MirrorShares$Beam" "rayEnd" "[I", Cond.methodLink RX0 73 yJ7_fill_53178]
def wsX5_best_r5 : List Cond := [Cond.static yJ7_fill_53178, Cond.initialized RJ7, Cond.code yJ7_fill_53178 cJ7_fill_53178 4 none, Cond.methodLink RX0 79 yX0_noteSplit, Cond.instanceMethod yX0_noteSplit, Cond.selects RX0 yX0_noteSplit yX0_noteSplit, Cond.code yX0_noteSplit cX0_noteSplit 2 none, Cond.methodLink RX0 82 yX0_endBeyond, Cond.static yX0_endBeyond, Cond.code yX0_endBeyond cX0_endBeyond 4 (some .int), Cond.methodLink RX0 63 yX0_setRows, Cond.instanceMethod yX0_setRows, Cond.selects RX0 yX0_setRows yX0_setRows, Cond.code yX0_setRows cX0_setRows 4 none, Cond.fieldLink RX0 23 "MirrorShares$Beam" "rows" "[[J", Cond.constantLong RX0 108 (2), Cond.methodLink RX0 105 yJ7_fill_d0a16, Cond.static yJ7_fill_d0a16, Cond.code yJ7_fill_d0a16 cJ7_fill_d0a16 5 none, Cond.methodLink RX0 66 yX0_solveRows, Cond.instanceMethod yX0_solveRows, Cond.selects RX0 yX0_solveRows yX0_solveRows, Cond.code yX0_solveRows cX0_solveRows 5 none, Cond.fieldLink RX0 34 "MirrorShares$Beam" "whole" "J"]
def wsX5_best_r6 : List Cond := [Cond.methodLink RX0 110 yX0_clearColumn, Cond.instanceMethod yX0_clearColumn, Cond.selects RX0 yX0_clearColumn yX0_clearColumn, Cond.code yX0_clearColumn cX0_clearColumn 7 none, Cond.methodLink RX0 69 yX0_addParts, Cond.instanceMethod yX0_addParts, Cond.selects RX0 yX0_addParts yX0_addParts, Cond.code yX0_addParts cX0_addParts 3 none, Cond.fieldLink RX0 26 "MirrorShares$Beam" "parts" "[J", Cond.methodLink RX0 114 yX0_addPart, Cond.instanceMethod yX0_addPart, Cond.selects RX0 yX0_addPart yX0_addPart, Cond.code yX0_addPart cX0_addPart 4 none, Cond.methodLink RX5 146 yX0_outAt, Cond.instanceMethod yX0_outAt, Cond.selects RX0 yX0_outAt yX0_outAt, Cond.code yX0_outAt cX0_outAt 2 (some .long), Cond.methodLink RX5 177 yX5_compareFractions, Cond.static yX5_compareFractions, Cond.code yX5_compareFractions cX5_compareFractions 8 (some .int), Cond.methodLink RX5 198 yJ13_compare_74951, Cond.static yJ13_compare_74951, Cond.initialized RJ13, Cond.code yJ13_compare_74951 cJ13_compare_74951 4 (some .int)]
def wsX5_best_r7 : List Cond := [Cond.methodLink RX5 187 yJ6_bitCount_0f7a4, Cond.static yJ6_bitCount_0f7a4, Cond.initialized RJ6, Cond.code yJ6_bitCount_0f7a4 cJ6_bitCount_0f7a4 1 (some .int), Cond.constant RJ6 265 (1431655765), Cond.constant RJ6 266 (858993459), Cond.constant RJ6 267 (252645135), Cond.methodLink RX5 154 yX5_lowest, Cond.static yX5_lowest, Cond.code yX5_lowest cX5_lowest 7 (some .int), Cond.methodLink RX5 204 yX5_commonDivisor, Cond.static yX5_commonDivisor, Cond.code yX5_commonDivisor cX5_commonDivisor 11 (some .long)]
def wsX5_best : List Cond := .code yX5_best cX5_best 12 (some .int) :: ((wsX5_best_r1 ++ (wsX5_best_r2 ++ (wsX5_best_r3 ++ (wsX5_best_r4 ++ (wsX5_best_r5 ++ (wsX5_best_r6 ++ wsX5_best_r7)))))) ++ wsX50 ++ wsX00 ++ wsX20)
def wsX5_found_r1 : List Cond := [Cond.fieldLink RX5 19 "MirrorShares" "room" "LMirrorShares$Room;", Cond.fieldLink RX5 43 "MirrorShares" "beam" "LMirrorShares$Beam;", Cond.fieldLink RX5 23 "MirrorShares" "trial" "LMirrorShares$Room;", Cond.methodLink RX5 139 yX5_hasPorts, Cond.instanceMethod yX5_hasPorts, Cond.selects RX5 yX5_hasPorts yX5_hasPorts, Cond.initialized RX5, Cond.code yX5_hasPorts cX5_hasPorts 3 (some .boolean), Cond.methodLink RX5 129 yX2_hasPort, Cond.instanceMethod yX2_hasPort, Cond.selects RX2 yX2_hasPort yX2_hasPort, Cond.initialized RX2, Cond.code yX2_hasPort cX2_hasPort 2 (some .boolean), Cond.methodLink RX2 31 yX2_ports, Cond.instanceMethod yX2_ports, Cond.selects RX2 yX2_ports yX2_ports, Cond.code yX2_ports cX2_ports 1 (some .int), Cond.fieldLink RX2 15 "MirrorShares$Room" "columns" "I", Cond.fieldLink RX2 19 "MirrorShares$Room" "rows" "I", Cond.methodLink RX5 91 yX5_isPart, Cond.static yX5_isPart, Cond.code yX5_isPart cX5_isPart 2 (some .boolean), Cond.methodLink RX5 70 yX2_cells, Cond.instanceMethod yX2_cells]
def wsX5_found_r2 : List Cond := [Cond.selects RX2 yX2_cells yX2_cells, Cond.code yX2_cells cX2_cells 1 (some .int), Cond.methodLink RX5 73 yX2_kindAt, Cond.instanceMethod yX2_kindAt, Cond.selects RX2 yX2_kindAt yX2_kindAt, Cond.code yX2_kindAt cX2_kindAt 2 (some .int), Cond.fieldLink RX2 9 "MirrorShares$Room" "kinds" "[I", Cond.methodLink RX2 35 yX2_cells, Cond.methodLink RX5 76 yX5_tryCell, Cond.instanceMethod yX5_tryCell, Cond.selects RX5 yX5_tryCell yX5_tryCell, Cond.code yX5_tryCell cX5_tryCell 3 none, Cond.methodLink RX5 63 yX2_become, Cond.instanceMethod yX2_become, Cond.selects RX2 yX2_become yX2_become, Cond.code yX2_become cX2_become 2 none, Cond.methodLink RX2 25 arraycopyName, Cond.native arraycopyName, Cond.static arraycopyName, Cond.initialized "java/lang/System", Cond.methodLink RX5 120 yX2_tell, Cond.instanceMethod yX2_tell, Cond.selects RX2 yX2_tell yX2_tell, Cond.code yX2_tell cX2_tell 3 none]
def wsX5_found_r3 : List Cond := [Cond.methodLink RX5 142 yX0_shine, Cond.instanceMethod yX0_shine, Cond.selects RX0 yX0_shine yX0_shine, Cond.initialized RX0, Cond.code yX0_shine cX0_shine 4 none, Cond.methodLink RX0 46 yX2_portCell, Cond.instanceMethod yX2_portCell, Cond.selects RX2 yX2_portCell yX2_portCell, Cond.code yX2_portCell cX2_portCell 2 (some .int), Cond.methodLink RX2 46 yX2_portDirection, Cond.instanceMethod yX2_portDirection, Cond.selects RX2 yX2_portDirection yX2_portDirection, Cond.code yX2_portDirection cX2_portDirection 2 (some .int), Cond.methodLink RX0 52 yX2_portDirection, Cond.methodLink RX0 55 yX0_endOf, Cond.static yX0_endOf, Cond.code yX0_endOf cX0_endOf 8 (some .int), Cond.methodLink RX0 85 yX2_kindAt, Cond.static yX5_isHalf, Cond.code yX5_isHalf cX5_isHalf 1 (some .boolean), Cond.static yX5_turnedBy, Cond.code yX5_turnedBy cX5_turnedBy 3 (some .int), Cond.static yX5_letsOn, Cond.code yX5_letsOn cX5_letsOn 1 (some .boolean)]
def wsX5_found_r4 : List Cond := [Cond.methodLink RX5 209 yX5_isHalf, Cond.static yX5_turnsBeam, Cond.code yX5_turnsBeam cX5_turnsBeam 1 (some .boolean), Cond.methodLink RX0 92 yX2_beyond, Cond.instanceMethod yX2_beyond, Cond.selects RX2 yX2_beyond yX2_beyond, Cond.code yX2_beyond cX2_beyond 5 (some .int), Cond.methodLink RX0 59 yX0_findSplits, Cond.instanceMethod yX0_findSplits, Cond.selects RX0 yX0_findSplits yX0_findSplits, Cond.code yX0_findSplits cX0_findSplits 6 none, Cond.fieldLink RX0 15 "MirrorShares$Beam" "splitNumber" "[I", Cond.fieldLink RX0 30 "MirrorShares$Beam" "splits" "I", Cond.fieldLink RX0 11 "MirrorShares$Beam" "splitPlace" "[I", Cond.fieldLink RX0 18 "MirrorShares$Beam" "rayEnd" "[I", Cond.methodLink RX0 73 yJ7_fill_53178, Cond.static yJ7_fill_53178, Cond.initialized RJ7, Cond.code yJ7_fill_53178 cJ7_fill_53178 4 none, Cond.methodLink RX0 79 yX0_noteSplit, Cond.instanceMethod yX0_noteSplit, Cond.selects RX0 yX0_noteSplit yX0_noteSplit, Cond.code yX0_noteSplit cX0_noteSplit 2 none, Cond.methodLink RX0 82 yX0_endBeyond]
def wsX5_found_r5 : List Cond := [Cond.static yX0_endBeyond, Cond.code yX0_endBeyond cX0_endBeyond 4 (some .int), Cond.methodLink RX0 63 yX0_setRows, Cond.instanceMethod yX0_setRows, Cond.selects RX0 yX0_setRows yX0_setRows, Cond.code yX0_setRows cX0_setRows 4 none, Cond.fieldLink RX0 23 "MirrorShares$Beam" "rows" "[[J", Cond.constantLong RX0 108 (2), Cond.methodLink RX0 105 yJ7_fill_d0a16, Cond.static yJ7_fill_d0a16, Cond.code yJ7_fill_d0a16 cJ7_fill_d0a16 5 none, Cond.methodLink RX0 66 yX0_solveRows, Cond.instanceMethod yX0_solveRows, Cond.selects RX0 yX0_solveRows yX0_solveRows, Cond.code yX0_solveRows cX0_solveRows 5 none, Cond.fieldLink RX0 34 "MirrorShares$Beam" "whole" "J", Cond.methodLink RX0 110 yX0_clearColumn, Cond.instanceMethod yX0_clearColumn, Cond.selects RX0 yX0_clearColumn yX0_clearColumn, Cond.code yX0_clearColumn cX0_clearColumn 7 none, Cond.methodLink RX0 69 yX0_addParts, Cond.instanceMethod yX0_addParts, Cond.selects RX0 yX0_addParts yX0_addParts, Cond.code yX0_addParts cX0_addParts 3 none]
def wsX5_found_r6 : List Cond := [Cond.fieldLink RX0 26 "MirrorShares$Beam" "parts" "[J", Cond.methodLink RX0 114 yX0_addPart, Cond.instanceMethod yX0_addPart, Cond.selects RX0 yX0_addPart yX0_addPart, Cond.code yX0_addPart cX0_addPart 4 none, Cond.methodLink RX5 146 yX0_outAt, Cond.instanceMethod yX0_outAt, Cond.selects RX0 yX0_outAt yX0_outAt, Cond.code yX0_outAt cX0_outAt 2 (some .long), Cond.methodLink RX5 177 yX5_compareFractions, Cond.static yX5_compareFractions, Cond.code yX5_compareFractions cX5_compareFractions 8 (some .int), Cond.methodLink RX5 198 yJ13_compare_74951, Cond.static yJ13_compare_74951, Cond.initialized RJ13, Cond.code yJ13_compare_74951 cJ13_compare_74951 4 (some .int)]
def wsX5_found : List Cond := .code yX5_found cX5_found 9 (some .int) :: ((wsX5_found_r1 ++ (wsX5_found_r2 ++ (wsX5_found_r3 ++ (wsX5_found_r4 ++ (wsX5_found_r5 ++ wsX5_found_r6))))) ++ wsX50 ++ wsX00 ++ wsX20)
def wsX5_count : List Cond := .code yX5_count cX5_count 2 (some .int) :: ([.fieldLink RX5 19 "MirrorShares" "room" "LMirrorShares$Room;", .fieldLink RX5 29 "MirrorShares" "past" "LMirrorShares$Past;", .fieldLink RX5 12 "MirrorShares" "text" "LMirrorShares$Told;", .methodLink RX5 95 yX2_countKinds, .instanceMethod yX2_countKinds, .selects RX2 yX2_countKinds yX2_countKinds, .initialized RX2, .code yX2_countKinds cX2_countKinds 6 (some .int), .methodLink RX2 35 yX2_cells, .instanceMethod yX2_cells, .selects RX2 yX2_cells yX2_cells, .code yX2_cells cX2_cells 1 (some .int), .fieldLink RX2 15 "MirrorShares$Room" "columns" "I", .fieldLink RX2 19 "MirrorShares$Room" "rows" "I", .methodLink RX2 38 yX2_kindAt, .instanceMethod yX2_kindAt, .selects RX2 yX2_kindAt yX2_kindAt, .code yX2_kindAt cX2_kindAt 2 (some .int), .fieldLink RX2 9 "MirrorShares$Room" "kinds" "[I", .methodLink RX5 192 yX2_ports, .instanceMethod yX2_ports, .selects RX2 yX2_ports yX2_ports, .code yX2_ports cX2_ports 1 (some .int)] ++ wsX50 ++ wsX20 ++ wsX10 ++ wsX30)
def wsX6_init : List Cond := .code yX6_init cX6_init 1 none :: ([.methodLink RX6 1 objectInit, .instanceMethod objectInit, .code objectInit ⟨#[0xb1]⟩ 1 none, .arrayClass .int, .fieldLink RX6 7 "MirrorSharesModel" "now" "[I", .fieldLink RX6 13 "MirrorSharesModel" "read" "[I", .fieldLink RX6 16 "MirrorSharesModel" "aside" "[I", .fieldLink RX6 19 "MirrorSharesModel" "past" "[I", .fieldLink RX6 22 "MirrorSharesModel" "text" "[I", .fieldLink RX6 25 "MirrorSharesModel" "nodes" "[I", .fieldLink RX6 28 "MirrorSharesModel" "comes" "[I", .arrayClass .boolean, .fieldLink RX6 31 "MirrorSharesModel" "may" "[Z", .fieldLink RX6 35 "MirrorSharesModel" "place" "[I", .arrayClass .long, .fieldLink RX6 38 "MirrorSharesModel" "rows" "[J", .fieldLink RX6 42 "MirrorSharesModel" "line" "[I", .fieldLink RX6 45 "MirrorSharesModel" "took" "[I"] ++ wsX60)
def wsX6_in : List Cond := .code yX6_in cX6_in 3 (some .boolean) :: ([])
def wsX6_copies : List Cond := .code yX6_copies cX6_copies 5 none :: ([])
def wsX6_cells : List Cond := .code yX6_cells cX6_cells 1 (some .int) :: ([])
def wsX6_isHalf : List Cond := .code yX6_isHalf cX6_isHalf 1 (some .boolean) :: ([.methodLink RX6 48 yX6_in, .static yX6_in, .initialized RX6, .code yX6_in cX6_in 3 (some .boolean)])
def wsX6_isDoor : List Cond := .code yX6_isDoor cX6_isDoor 1 (some .boolean) :: ([.methodLink RX6 48 yX6_in, .static yX6_in, .initialized RX6, .code yX6_in cX6_in 3 (some .boolean)])
def wsX6_halves : List Cond := .code yX6_halves cX6_halves 3 (some .int) :: ([.methodLink RX6 52 yX6_cells, .static yX6_cells, .initialized RX6, .code yX6_cells cX6_cells 1 (some .int), .methodLink RX6 56 yX6_isHalf, .static yX6_isHalf, .code yX6_isHalf cX6_isHalf 1 (some .boolean), .methodLink RX6 48 yX6_in, .static yX6_in, .code yX6_in cX6_in 3 (some .boolean)])
def wsX6_doors : List Cond := .code yX6_doors cX6_doors 3 (some .int) :: ([.methodLink RX6 52 yX6_cells, .static yX6_cells, .initialized RX6, .code yX6_cells cX6_cells 1 (some .int), .methodLink RX6 60 yX6_isDoor, .static yX6_isDoor, .code yX6_isDoor cX6_isDoor 1 (some .boolean), .methodLink RX6 48 yX6_in, .static yX6_in, .code yX6_in cX6_in 3 (some .boolean)])
def wsX6_kindOf : List Cond := .code yX6_kindOf cX6_kindOf 1 (some .int) :: ([])
def wsX6_takesRow_r1 : List Cond := [Cond.fieldLink RX6 22 "MirrorSharesModel" "text" "[I", Cond.fieldLink RX6 63 "MirrorSharesModel" "spot" "I", Cond.fieldLink RX6 13 "MirrorSharesModel" "read" "[I", Cond.fieldLink RX6 67 "MirrorSharesModel" "letters" "I", Cond.methodLink RX6 70 yX6_kindOf, Cond.static yX6_kindOf, Cond.initialized RX6, Cond.code yX6_kindOf cX6_kindOf 1 (some .int), Cond.methodLink RX6 74 yX6_halves, Cond.static yX6_halves, Cond.code yX6_halves cX6_halves 3 (some .int), Cond.methodLink RX6 52 yX6_cells, Cond.static yX6_cells, Cond.code yX6_cells cX6_cells 1 (some .int), Cond.methodLink RX6 56 yX6_isHalf, Cond.static yX6_isHalf, Cond.code yX6_isHalf cX6_isHalf 1 (some .boolean), Cond.methodLink RX6 48 yX6_in, Cond.static yX6_in, Cond.code yX6_in cX6_in 3 (some .boolean), Cond.methodLink RX6 77 yX6_doors, Cond.static yX6_doors, Cond.code yX6_doors cX6_doors 3 (some .int), Cond.methodLink RX6 60 yX6_isDoor]
def wsX6_takesRow_r2 : List Cond := [Cond.static yX6_isDoor, Cond.code yX6_isDoor cX6_isDoor 1 (some .boolean)]
def wsX6_takesRow : List Cond := .code yX6_takesRow cX6_takesRow 4 (some .boolean) :: ((wsX6_takesRow_r1 ++ wsX6_takesRow_r2) ++ wsX60)
def wsX6_reads_r1 : List Cond := [Cond.fieldLink RX6 13 "MirrorSharesModel" "read" "[I", Cond.fieldLink RX6 63 "MirrorSharesModel" "spot" "I", Cond.fieldLink RX6 67 "MirrorSharesModel" "letters" "I", Cond.methodLink RX6 80 yX6_takesRow, Cond.instanceMethod yX6_takesRow, Cond.selects RX6 yX6_takesRow yX6_takesRow, Cond.initialized RX6, Cond.code yX6_takesRow cX6_takesRow 4 (some .boolean), Cond.fieldLink RX6 22 "MirrorSharesModel" "text" "[I", Cond.methodLink RX6 70 yX6_kindOf, Cond.static yX6_kindOf, Cond.code yX6_kindOf cX6_kindOf 1 (some .int), Cond.methodLink RX6 74 yX6_halves, Cond.static yX6_halves, Cond.code yX6_halves cX6_halves 3 (some .int), Cond.methodLink RX6 52 yX6_cells, Cond.static yX6_cells, Cond.code yX6_cells cX6_cells 1 (some .int), Cond.methodLink RX6 56 yX6_isHalf, Cond.static yX6_isHalf, Cond.code yX6_isHalf cX6_isHalf 1 (some .boolean), Cond.methodLink RX6 48 yX6_in, Cond.static yX6_in, Cond.code yX6_in cX6_in 3 (some .boolean)]
def wsX6_reads_r2 : List Cond := [Cond.methodLink RX6 77 yX6_doors, Cond.static yX6_doors, Cond.code yX6_doors cX6_doors 3 (some .int), Cond.methodLink RX6 60 yX6_isDoor, Cond.static yX6_isDoor, Cond.code yX6_isDoor cX6_isDoor 1 (some .boolean)]
def wsX6_reads : List Cond := .code yX6_reads cX6_reads 2 (some .int) :: ((wsX6_reads_r1 ++ wsX6_reads_r2) ++ wsX60)
def wsX6_write : List Cond := .code yX6_write cX6_write 2 (some .int) :: ([.fieldLink RX6 67 "MirrorSharesModel" "letters" "I", .fieldLink RX6 22 "MirrorSharesModel" "text" "[I", .methodLink RX6 48 yX6_in, .static yX6_in, .initialized RX6, .code yX6_in cX6_in 3 (some .boolean)] ++ wsX60)
def wsX6_wipe : List Cond := .code yX6_wipe cX6_wipe 2 (some .int) :: ([.fieldLink RX6 67 "MirrorSharesModel" "letters" "I"] ++ wsX60)
def wsX6_fault_r1 : List Cond := [Cond.methodLink RX6 84 yX6_reads, Cond.instanceMethod yX6_reads, Cond.selects RX6 yX6_reads yX6_reads, Cond.initialized RX6, Cond.code yX6_reads cX6_reads 2 (some .int), Cond.fieldLink RX6 13 "MirrorSharesModel" "read" "[I", Cond.fieldLink RX6 63 "MirrorSharesModel" "spot" "I", Cond.fieldLink RX6 67 "MirrorSharesModel" "letters" "I", Cond.methodLink RX6 80 yX6_takesRow, Cond.instanceMethod yX6_takesRow, Cond.selects RX6 yX6_takesRow yX6_takesRow, Cond.code yX6_takesRow cX6_takesRow 4 (some .boolean), Cond.fieldLink RX6 22 "MirrorSharesModel" "text" "[I", Cond.methodLink RX6 70 yX6_kindOf, Cond.static yX6_kindOf, Cond.code yX6_kindOf cX6_kindOf 1 (some .int), Cond.methodLink RX6 74 yX6_halves, Cond.static yX6_halves, Cond.code yX6_halves cX6_halves 3 (some .int), Cond.methodLink RX6 52 yX6_cells, Cond.static yX6_cells, Cond.code yX6_cells cX6_cells 1 (some .int), Cond.methodLink RX6 56 yX6_isHalf, Cond.static yX6_isHalf]
def wsX6_fault_r2 : List Cond := [Cond.code yX6_isHalf cX6_isHalf 1 (some .boolean), Cond.methodLink RX6 48 yX6_in, Cond.static yX6_in, Cond.code yX6_in cX6_in 3 (some .boolean), Cond.methodLink RX6 77 yX6_doors, Cond.static yX6_doors, Cond.code yX6_doors cX6_doors 3 (some .int), Cond.methodLink RX6 60 yX6_isDoor, Cond.static yX6_isDoor, Cond.code yX6_isDoor cX6_isDoor 1 (some .boolean)]
def wsX6_fault : List Cond := .code yX6_fault cX6_fault 1 (some .int) :: ((wsX6_fault_r1 ++ wsX6_fault_r2) ++ wsX60)
def wsX6_lay_r1 : List Cond := [Cond.fieldLink RX6 13 "MirrorSharesModel" "read" "[I", Cond.fieldLink RX6 7 "MirrorSharesModel" "now" "[I", Cond.fieldLink RX6 92 "MirrorSharesModel" "changes" "I", Cond.methodLink RX6 84 yX6_reads, Cond.instanceMethod yX6_reads, Cond.selects RX6 yX6_reads yX6_reads, Cond.initialized RX6, Cond.code yX6_reads cX6_reads 2 (some .int), Cond.fieldLink RX6 63 "MirrorSharesModel" "spot" "I", Cond.fieldLink RX6 67 "MirrorSharesModel" "letters" "I", Cond.methodLink RX6 80 yX6_takesRow, Cond.instanceMethod yX6_takesRow, Cond.selects RX6 yX6_takesRow yX6_takesRow, Cond.code yX6_takesRow cX6_takesRow 4 (some .boolean), Cond.fieldLink RX6 22 "MirrorSharesModel" "text" "[I", Cond.methodLink RX6 70 yX6_kindOf, Cond.static yX6_kindOf, Cond.code yX6_kindOf cX6_kindOf 1 (some .int), Cond.methodLink RX6 74 yX6_halves, Cond.static yX6_halves, Cond.code yX6_halves cX6_halves 3 (some .int), Cond.methodLink RX6 52 yX6_cells, Cond.static yX6_cells, Cond.code yX6_cells cX6_cells 1 (some .int)]
def wsX6_lay_r2 : List Cond := [Cond.methodLink RX6 56 yX6_isHalf, Cond.static yX6_isHalf, Cond.code yX6_isHalf cX6_isHalf 1 (some .boolean), Cond.methodLink RX6 48 yX6_in, Cond.static yX6_in, Cond.code yX6_in cX6_in 3 (some .boolean), Cond.methodLink RX6 77 yX6_doors, Cond.static yX6_doors, Cond.code yX6_doors cX6_doors 3 (some .int), Cond.methodLink RX6 60 yX6_isDoor, Cond.static yX6_isDoor, Cond.code yX6_isDoor cX6_isDoor 1 (some .boolean), Cond.methodLink RX6 88 yX6_copies, Cond.static yX6_copies, Cond.code yX6_copies cX6_copies 5 none]
def wsX6_lay : List Cond := .code yX6_lay cX6_lay 1 (some .int) :: ((wsX6_lay_r1 ++ wsX6_lay_r2) ++ wsX60)
def wsX6_keeps : List Cond := .code yX6_keeps cX6_keeps 2 none :: ([.fieldLink RX6 92 "MirrorSharesModel" "changes" "I", .fieldLink RX6 19 "MirrorSharesModel" "past" "[I", .fieldLink RX6 7 "MirrorSharesModel" "now" "[I", .methodLink RX6 88 yX6_copies, .static yX6_copies, .initialized RX6, .code yX6_copies cX6_copies 5 none] ++ wsX60)
def wsX6_undo : List Cond := .code yX6_undo cX6_undo 1 (some .int) :: ([.fieldLink RX6 92 "MirrorSharesModel" "changes" "I", .fieldLink RX6 19 "MirrorSharesModel" "past" "[I", .fieldLink RX6 7 "MirrorSharesModel" "now" "[I", .methodLink RX6 88 yX6_copies, .static yX6_copies, .initialized RX6, .code yX6_copies cX6_copies 5 none] ++ wsX60)
def wsX6_isCell : List Cond := .code yX6_isCell cX6_isCell 2 (some .boolean) :: ([.fieldLink RX6 7 "MirrorSharesModel" "now" "[I", .methodLink RX6 52 yX6_cells, .static yX6_cells, .initialized RX6, .code yX6_cells cX6_cells 1 (some .int), .methodLink RX6 48 yX6_in, .static yX6_in, .code yX6_in cX6_in 3 (some .boolean)] ++ wsX60)
def wsX6_put_r1 : List Cond := [Cond.fieldLink RX6 7 "MirrorSharesModel" "now" "[I", Cond.methodLink RX6 95 yX6_isCell, Cond.instanceMethod yX6_isCell, Cond.selects RX6 yX6_isCell yX6_isCell, Cond.initialized RX6, Cond.code yX6_isCell cX6_isCell 2 (some .boolean), Cond.methodLink RX6 52 yX6_cells, Cond.static yX6_cells, Cond.code yX6_cells cX6_cells 1 (some .int), Cond.methodLink RX6 48 yX6_in, Cond.static yX6_in, Cond.code yX6_in cX6_in 3 (some .boolean), Cond.methodLink RX6 56 yX6_isHalf, Cond.static yX6_isHalf, Cond.code yX6_isHalf cX6_isHalf 1 (some .boolean), Cond.methodLink RX6 74 yX6_halves, Cond.static yX6_halves, Cond.code yX6_halves cX6_halves 3 (some .int), Cond.methodLink RX6 60 yX6_isDoor, Cond.static yX6_isDoor, Cond.code yX6_isDoor cX6_isDoor 1 (some .boolean), Cond.methodLink RX6 77 yX6_doors, Cond.static yX6_doors, Cond.code yX6_doors cX6_doors 3 (some .int)]
def wsX6_put_r2 : List Cond := [Cond.methodLink RX6 98 yX6_keeps, Cond.instanceMethod yX6_keeps, Cond.selects RX6 yX6_keeps yX6_keeps, Cond.code yX6_keeps cX6_keeps 2 none, Cond.fieldLink RX6 92 "MirrorSharesModel" "changes" "I", Cond.fieldLink RX6 19 "MirrorSharesModel" "past" "[I", Cond.methodLink RX6 88 yX6_copies, Cond.static yX6_copies, Cond.code yX6_copies cX6_copies 5 none]
def wsX6_put : List Cond := .code yX6_put cX6_put 6 (some .int) :: ((wsX6_put_r1 ++ wsX6_put_r2) ++ wsX60)
def wsX6_doorCell : List Cond := .code yX6_doorCell cX6_doorCell 4 (some .int) :: ([.methodLink RX6 52 yX6_cells, .static yX6_cells, .initialized RX6, .code yX6_cells cX6_cells 1 (some .int), .methodLink RX6 60 yX6_isDoor, .static yX6_isDoor, .code yX6_isDoor cX6_isDoor 1 (some .boolean), .methodLink RX6 48 yX6_in, .static yX6_in, .code yX6_in cX6_in 3 (some .boolean)])
def wsX6_openOf : List Cond := .code yX6_openOf cX6_openOf 3 (some .int) :: ([.methodLink RX6 52 yX6_cells, .static yX6_cells, .initialized RX6, .code yX6_cells cX6_cells 1 (some .int)])
def wsX6_isTheDoor : List Cond := .code yX6_isTheDoor cX6_isTheDoor 2 (some .boolean) :: ([.fieldLink RX6 7 "MirrorSharesModel" "now" "[I", .methodLink RX6 77 yX6_doors, .static yX6_doors, .initialized RX6, .code yX6_doors cX6_doors 3 (some .int), .methodLink RX6 52 yX6_cells, .static yX6_cells, .code yX6_cells cX6_cells 1 (some .int), .methodLink RX6 60 yX6_isDoor, .static yX6_isDoor, .code yX6_isDoor cX6_isDoor 1 (some .boolean), .methodLink RX6 48 yX6_in, .static yX6_in, .code yX6_in cX6_in 3 (some .boolean)] ++ wsX60)
def wsX6_door_r1 : List Cond := [Cond.fieldLink RX6 7 "MirrorSharesModel" "now" "[I", Cond.methodLink RX6 101 yX6_isTheDoor, Cond.instanceMethod yX6_isTheDoor, Cond.selects RX6 yX6_isTheDoor yX6_isTheDoor, Cond.initialized RX6, Cond.code yX6_isTheDoor cX6_isTheDoor 2 (some .boolean), Cond.methodLink RX6 77 yX6_doors, Cond.static yX6_doors, Cond.code yX6_doors cX6_doors 3 (some .int), Cond.methodLink RX6 52 yX6_cells, Cond.static yX6_cells, Cond.code yX6_cells cX6_cells 1 (some .int), Cond.methodLink RX6 60 yX6_isDoor, Cond.static yX6_isDoor, Cond.code yX6_isDoor cX6_isDoor 1 (some .boolean), Cond.methodLink RX6 48 yX6_in, Cond.static yX6_in, Cond.code yX6_in cX6_in 3 (some .boolean), Cond.methodLink RX6 104 yX6_doorCell, Cond.static yX6_doorCell, Cond.code yX6_doorCell cX6_doorCell 4 (some .int), Cond.methodLink RX6 98 yX6_keeps, Cond.instanceMethod yX6_keeps, Cond.selects RX6 yX6_keeps yX6_keeps]
def wsX6_door_r2 : List Cond := [Cond.code yX6_keeps cX6_keeps 2 none, Cond.fieldLink RX6 92 "MirrorSharesModel" "changes" "I", Cond.fieldLink RX6 19 "MirrorSharesModel" "past" "[I", Cond.methodLink RX6 88 yX6_copies, Cond.static yX6_copies, Cond.code yX6_copies cX6_copies 5 none, Cond.methodLink RX6 108 yX6_openOf, Cond.static yX6_openOf, Cond.code yX6_openOf cX6_openOf 3 (some .int)]
def wsX6_door : List Cond := .code yX6_door cX6_door 4 (some .int) :: ((wsX6_door_r1 ++ wsX6_door_r2) ++ wsX60)
def wsX6_turn : List Cond := .code yX6_turn cX6_turn 7 (some .int) :: ([.fieldLink RX6 7 "MirrorSharesModel" "now" "[I", .fieldLink RX6 16 "MirrorSharesModel" "aside" "[I", .methodLink RX6 48 yX6_in, .static yX6_in, .initialized RX6, .code yX6_in cX6_in 3 (some .boolean), .methodLink RX6 98 yX6_keeps, .instanceMethod yX6_keeps, .selects RX6 yX6_keeps yX6_keeps, .code yX6_keeps cX6_keeps 2 none, .fieldLink RX6 92 "MirrorSharesModel" "changes" "I", .fieldLink RX6 19 "MirrorSharesModel" "past" "[I", .methodLink RX6 88 yX6_copies, .static yX6_copies, .code yX6_copies cX6_copies 5 none, .methodLink RX6 56 yX6_isHalf, .static yX6_isHalf, .code yX6_isHalf cX6_isHalf 1 (some .boolean)] ++ wsX60)
def wsX6_cell : List Cond := .code yX6_cell cX6_cell 2 (some .int) :: ([.fieldLink RX6 7 "MirrorSharesModel" "now" "[I", .methodLink RX6 95 yX6_isCell, .instanceMethod yX6_isCell, .selects RX6 yX6_isCell yX6_isCell, .initialized RX6, .code yX6_isCell cX6_isCell 2 (some .boolean), .methodLink RX6 52 yX6_cells, .static yX6_cells, .code yX6_cells cX6_cells 1 (some .int), .methodLink RX6 48 yX6_in, .static yX6_in, .code yX6_in cX6_in 3 (some .boolean)] ++ wsX60)
def wsX6_doorAt : List Cond := .code yX6_doorAt cX6_doorAt 2 (some .int) :: ([.fieldLink RX6 7 "MirrorSharesModel" "now" "[I", .methodLink RX6 101 yX6_isTheDoor, .instanceMethod yX6_isTheDoor, .selects RX6 yX6_isTheDoor yX6_isTheDoor, .initialized RX6, .code yX6_isTheDoor cX6_isTheDoor 2 (some .boolean), .methodLink RX6 77 yX6_doors, .static yX6_doors, .code yX6_doors cX6_doors 3 (some .int), .methodLink RX6 52 yX6_cells, .static yX6_cells, .code yX6_cells cX6_cells 1 (some .int), .methodLink RX6 60 yX6_isDoor, .static yX6_isDoor, .code yX6_isDoor cX6_isDoor 1 (some .boolean), .methodLink RX6 48 yX6_in, .static yX6_in, .code yX6_in cX6_in 3 (some .boolean), .methodLink RX6 104 yX6_doorCell, .static yX6_doorCell, .code yX6_doorCell cX6_doorCell 4 (some .int)] ++ wsX60)
def wsX6_ports : List Cond := .code yX6_ports cX6_ports 1 (some .int) :: ([])
def wsX6_isPort : List Cond := .code yX6_isPort cX6_isPort 2 (some .boolean) :: ([.fieldLink RX6 7 "MirrorSharesModel" "now" "[I", .methodLink RX6 111 yX6_ports, .static yX6_ports, .initialized RX6, .code yX6_ports cX6_ports 1 (some .int), .methodLink RX6 48 yX6_in, .static yX6_in, .code yX6_in cX6_in 3 (some .boolean)] ++ wsX60)
def wsX6_portState : List Cond := .code yX6_portState cX6_portState 4 (some .int) :: ([])
def wsX6_port : List Cond := .code yX6_port cX6_port 4 (some .int) :: ([.fieldLink RX6 7 "MirrorSharesModel" "now" "[I", .methodLink RX6 114 yX6_isPort, .instanceMethod yX6_isPort, .selects RX6 yX6_isPort yX6_isPort, .initialized RX6, .code yX6_isPort cX6_isPort 2 (some .boolean), .methodLink RX6 111 yX6_ports, .static yX6_ports, .code yX6_ports cX6_ports 1 (some .int), .methodLink RX6 48 yX6_in, .static yX6_in, .code yX6_in cX6_in 3 (some .boolean), .methodLink RX6 117 yX6_portState, .static yX6_portState, .code yX6_portState cX6_portState 4 (some .int)] ++ wsX60)
def wsX6_onward : List Cond := .code yX6_onward cX6_onward 7 (some .int) :: ([])
def wsX6_turned : List Cond := .code yX6_turned cX6_turned 2 (some .int) :: ([])
def wsX6_waysOf : List Cond := .code yX6_waysOf cX6_waysOf 3 (some .int) :: ([.methodLink RX6 56 yX6_isHalf, .static yX6_isHalf, .initialized RX6, .code yX6_isHalf cX6_isHalf 1 (some .boolean), .methodLink RX6 48 yX6_in, .static yX6_in, .code yX6_in cX6_in 3 (some .boolean)])
def wsX6_goes : List Cond := .code yX6_goes cX6_goes 7 (some .int) :: ([.methodLink RX6 48 yX6_in, .static yX6_in, .initialized RX6, .code yX6_in cX6_in 3 (some .boolean), .methodLink RX6 56 yX6_isHalf, .static yX6_isHalf, .code yX6_isHalf cX6_isHalf 1 (some .boolean), .methodLink RX6 120 yX6_turned, .static yX6_turned, .code yX6_turned cX6_turned 2 (some .int), .methodLink RX6 124 yX6_onward, .static yX6_onward, .code yX6_onward cX6_onward 7 (some .int)])
def wsX6_follows : List Cond := .code yX6_follows cX6_follows 4 (some .int) :: ([.methodLink RX6 128 yX6_waysOf, .static yX6_waysOf, .initialized RX6, .code yX6_waysOf cX6_waysOf 3 (some .int), .methodLink RX6 56 yX6_isHalf, .static yX6_isHalf, .code yX6_isHalf cX6_isHalf 1 (some .boolean), .methodLink RX6 48 yX6_in, .static yX6_in, .code yX6_in cX6_in 3 (some .boolean), .methodLink RX6 131 yX6_goes, .static yX6_goes, .code yX6_goes cX6_goes 7 (some .int), .methodLink RX6 120 yX6_turned, .static yX6_turned, .code yX6_turned cX6_turned 2 (some .int), .methodLink RX6 124 yX6_onward, .static yX6_onward, .code yX6_onward cX6_onward 7 (some .int)])
def wsX6_isAsked : List Cond := .code yX6_isAsked cX6_isAsked 2 (some .boolean) :: ([])
def wsX6_gathers_r1 : List Cond := [Cond.fieldLink RX6 134 "MirrorSharesModel" "nodeMany" "I", Cond.fieldLink RX6 25 "MirrorSharesModel" "nodes" "[I", Cond.fieldLink RX6 28 "MirrorSharesModel" "comes" "[I", Cond.methodLink RX6 131 yX6_goes, Cond.static yX6_goes, Cond.initialized RX6, Cond.code yX6_goes cX6_goes 7 (some .int), Cond.methodLink RX6 48 yX6_in, Cond.static yX6_in, Cond.code yX6_in cX6_in 3 (some .boolean), Cond.methodLink RX6 56 yX6_isHalf, Cond.static yX6_isHalf, Cond.code yX6_isHalf cX6_isHalf 1 (some .boolean), Cond.methodLink RX6 120 yX6_turned, Cond.static yX6_turned, Cond.code yX6_turned cX6_turned 2 (some .int), Cond.methodLink RX6 124 yX6_onward, Cond.static yX6_onward, Cond.code yX6_onward cX6_onward 7 (some .int), Cond.methodLink RX6 137 yX6_follows, Cond.static yX6_follows, Cond.code yX6_follows cX6_follows 4 (some .int), Cond.methodLink RX6 128 yX6_waysOf, Cond.static yX6_waysOf]
def wsX6_gathers_r2 : List Cond := [Cond.code yX6_waysOf cX6_waysOf 3 (some .int)]
def wsX6_gathers : List Cond := .code yX6_gathers cX6_gathers 8 none :: ((wsX6_gathers_r1 ++ wsX6_gathers_r2) ++ wsX60)
def wsX6_findsMay : List Cond := .code yX6_findsMay cX6_findsMay 6 none :: ([.fieldLink RX6 35 "MirrorSharesModel" "place" "[I", .fieldLink RX6 134 "MirrorSharesModel" "nodeMany" "I", .fieldLink RX6 31 "MirrorSharesModel" "may" "[Z", .fieldLink RX6 25 "MirrorSharesModel" "nodes" "[I", .fieldLink RX6 28 "MirrorSharesModel" "comes" "[I", .methodLink RX6 140 yX6_isAsked, .static yX6_isAsked, .initialized RX6, .code yX6_isAsked cX6_isAsked 2 (some .boolean)] ++ wsX60)
def wsX6_laysRows : List Cond := .code yX6_laysRows cX6_laysRows 7 (some .int) :: ([.fieldLink RX6 134 "MirrorSharesModel" "nodeMany" "I", .fieldLink RX6 35 "MirrorSharesModel" "place" "[I", .fieldLink RX6 25 "MirrorSharesModel" "nodes" "[I", .fieldLink RX6 31 "MirrorSharesModel" "may" "[Z", .fieldLink RX6 38 "MirrorSharesModel" "rows" "[J", .constantLong RX6 144 (2), .fieldLink RX6 28 "MirrorSharesModel" "comes" "[I", .methodLink RX6 140 yX6_isAsked, .static yX6_isAsked, .initialized RX6, .code yX6_isAsked cX6_isAsked 2 (some .boolean)] ++ wsX60)
def wsX6_solves : List Cond := .code yX6_solves cX6_solves 11 none :: ([.fieldLink RX6 38 "MirrorSharesModel" "rows" "[J", .fieldLink RX6 146 "MirrorSharesModel" "above" "J", .fieldLink RX6 150 "MirrorSharesModel" "below" "J"] ++ wsX60)
def wsX6_lowers : List Cond := .code yX6_lowers cX6_lowers 7 none :: ([.fieldLink RX6 146 "MirrorSharesModel" "above" "J", .fieldLink RX6 150 "MirrorSharesModel" "below" "J"] ++ wsX60)
def wsX6_shares_r1 : List Cond := [Cond.fieldLink RX6 146 "MirrorSharesModel" "above" "J", Cond.fieldLink RX6 150 "MirrorSharesModel" "below" "J", Cond.fieldLink RX6 31 "MirrorSharesModel" "may" "[Z", Cond.methodLink RX6 117 yX6_portState, Cond.static yX6_portState, Cond.initialized RX6, Cond.code yX6_portState cX6_portState 4 (some .int), Cond.methodLink RX6 137 yX6_follows, Cond.static yX6_follows, Cond.code yX6_follows cX6_follows 4 (some .int), Cond.methodLink RX6 128 yX6_waysOf, Cond.static yX6_waysOf, Cond.code yX6_waysOf cX6_waysOf 3 (some .int), Cond.methodLink RX6 56 yX6_isHalf, Cond.static yX6_isHalf, Cond.code yX6_isHalf cX6_isHalf 1 (some .boolean), Cond.methodLink RX6 48 yX6_in, Cond.static yX6_in, Cond.code yX6_in cX6_in 3 (some .boolean), Cond.methodLink RX6 131 yX6_goes, Cond.static yX6_goes, Cond.code yX6_goes cX6_goes 7 (some .int), Cond.methodLink RX6 120 yX6_turned, Cond.static yX6_turned]
def wsX6_shares_r2 : List Cond := [Cond.code yX6_turned cX6_turned 2 (some .int), Cond.methodLink RX6 124 yX6_onward, Cond.static yX6_onward, Cond.code yX6_onward cX6_onward 7 (some .int), Cond.methodLink RX6 140 yX6_isAsked, Cond.static yX6_isAsked, Cond.code yX6_isAsked cX6_isAsked 2 (some .boolean), Cond.methodLink RX6 153 yX6_gathers, Cond.instanceMethod yX6_gathers, Cond.selects RX6 yX6_gathers yX6_gathers, Cond.code yX6_gathers cX6_gathers 8 none, Cond.fieldLink RX6 134 "MirrorSharesModel" "nodeMany" "I", Cond.fieldLink RX6 25 "MirrorSharesModel" "nodes" "[I", Cond.fieldLink RX6 28 "MirrorSharesModel" "comes" "[I", Cond.methodLink RX6 157 yX6_findsMay, Cond.instanceMethod yX6_findsMay, Cond.selects RX6 yX6_findsMay yX6_findsMay, Cond.code yX6_findsMay cX6_findsMay 6 none, Cond.fieldLink RX6 35 "MirrorSharesModel" "place" "[I", Cond.methodLink RX6 161 yX6_laysRows, Cond.instanceMethod yX6_laysRows, Cond.selects RX6 yX6_laysRows yX6_laysRows, Cond.code yX6_laysRows cX6_laysRows 7 (some .int), Cond.fieldLink RX6 38 "MirrorSharesModel" "rows" "[J"]
def wsX6_shares_r3 : List Cond := [Cond.constantLong RX6 144 (2), Cond.methodLink RX6 164 yX6_solves, Cond.instanceMethod yX6_solves, Cond.selects RX6 yX6_solves yX6_solves, Cond.code yX6_solves cX6_solves 11 none, Cond.methodLink RX6 167 yX6_lowers, Cond.instanceMethod yX6_lowers, Cond.selects RX6 yX6_lowers yX6_lowers, Cond.code yX6_lowers cX6_lowers 7 none]
def wsX6_shares : List Cond := .code yX6_shares cX6_shares 5 none :: ((wsX6_shares_r1 ++ (wsX6_shares_r2 ++ wsX6_shares_r3)) ++ wsX60)
def wsX6_share_r1 : List Cond := [Cond.fieldLink RX6 7 "MirrorSharesModel" "now" "[I", Cond.fieldLink RX6 146 "MirrorSharesModel" "above" "J", Cond.fieldLink RX6 150 "MirrorSharesModel" "below" "J", Cond.methodLink RX6 114 yX6_isPort, Cond.instanceMethod yX6_isPort, Cond.selects RX6 yX6_isPort yX6_isPort, Cond.initialized RX6, Cond.code yX6_isPort cX6_isPort 2 (some .boolean), Cond.methodLink RX6 111 yX6_ports, Cond.static yX6_ports, Cond.code yX6_ports cX6_ports 1 (some .int), Cond.methodLink RX6 48 yX6_in, Cond.static yX6_in, Cond.code yX6_in cX6_in 3 (some .boolean), Cond.methodLink RX6 170 yX6_shares, Cond.instanceMethod yX6_shares, Cond.selects RX6 yX6_shares yX6_shares, Cond.code yX6_shares cX6_shares 5 none, Cond.fieldLink RX6 31 "MirrorSharesModel" "may" "[Z", Cond.methodLink RX6 117 yX6_portState, Cond.static yX6_portState, Cond.code yX6_portState cX6_portState 4 (some .int), Cond.methodLink RX6 137 yX6_follows, Cond.static yX6_follows]
def wsX6_share_r2 : List Cond := [Cond.code yX6_follows cX6_follows 4 (some .int), Cond.methodLink RX6 128 yX6_waysOf, Cond.static yX6_waysOf, Cond.code yX6_waysOf cX6_waysOf 3 (some .int), Cond.methodLink RX6 56 yX6_isHalf, Cond.static yX6_isHalf, Cond.code yX6_isHalf cX6_isHalf 1 (some .boolean), Cond.methodLink RX6 131 yX6_goes, Cond.static yX6_goes, Cond.code yX6_goes cX6_goes 7 (some .int), Cond.methodLink RX6 120 yX6_turned, Cond.static yX6_turned, Cond.code yX6_turned cX6_turned 2 (some .int), Cond.methodLink RX6 124 yX6_onward, Cond.static yX6_onward, Cond.code yX6_onward cX6_onward 7 (some .int), Cond.methodLink RX6 140 yX6_isAsked, Cond.static yX6_isAsked, Cond.code yX6_isAsked cX6_isAsked 2 (some .boolean), Cond.methodLink RX6 153 yX6_gathers, Cond.instanceMethod yX6_gathers, Cond.selects RX6 yX6_gathers yX6_gathers, Cond.code yX6_gathers cX6_gathers 8 none, Cond.fieldLink RX6 134 "MirrorSharesModel" "nodeMany" "I"]
def wsX6_share_r3 : List Cond := [Cond.fieldLink RX6 25 "MirrorSharesModel" "nodes" "[I", Cond.fieldLink RX6 28 "MirrorSharesModel" "comes" "[I", Cond.methodLink RX6 157 yX6_findsMay, Cond.instanceMethod yX6_findsMay, Cond.selects RX6 yX6_findsMay yX6_findsMay, Cond.code yX6_findsMay cX6_findsMay 6 none, Cond.fieldLink RX6 35 "MirrorSharesModel" "place" "[I", Cond.methodLink RX6 161 yX6_laysRows, Cond.instanceMethod yX6_laysRows, Cond.selects RX6 yX6_laysRows yX6_laysRows, Cond.code yX6_laysRows cX6_laysRows 7 (some .int), Cond.fieldLink RX6 38 "MirrorSharesModel" "rows" "[J", Cond.constantLong RX6 144 (2), Cond.methodLink RX6 164 yX6_solves, Cond.instanceMethod yX6_solves, Cond.selects RX6 yX6_solves yX6_solves, Cond.code yX6_solves cX6_solves 11 none, Cond.methodLink RX6 167 yX6_lowers, Cond.instanceMethod yX6_lowers, Cond.selects RX6 yX6_lowers yX6_lowers, Cond.code yX6_lowers cX6_lowers 7 none]
def wsX6_share : List Cond := .code yX6_share cX6_share 4 (some .int) :: ((wsX6_share_r1 ++ (wsX6_share_r2 ++ wsX6_share_r3)) ++ wsX60)
def wsX6_lostOf_r1 : List Cond := [Cond.fieldLink RX6 7 "MirrorSharesModel" "now" "[I", Cond.fieldLink RX6 150 "MirrorSharesModel" "below" "J", Cond.fieldLink RX6 146 "MirrorSharesModel" "above" "J", Cond.methodLink RX6 170 yX6_shares, Cond.instanceMethod yX6_shares, Cond.selects RX6 yX6_shares yX6_shares, Cond.initialized RX6, Cond.code yX6_shares cX6_shares 5 none, Cond.fieldLink RX6 31 "MirrorSharesModel" "may" "[Z", Cond.methodLink RX6 117 yX6_portState, Cond.static yX6_portState, Cond.code yX6_portState cX6_portState 4 (some .int), Cond.methodLink RX6 137 yX6_follows, Cond.static yX6_follows, Cond.code yX6_follows cX6_follows 4 (some .int), Cond.methodLink RX6 128 yX6_waysOf, Cond.static yX6_waysOf, Cond.code yX6_waysOf cX6_waysOf 3 (some .int), Cond.methodLink RX6 56 yX6_isHalf, Cond.static yX6_isHalf, Cond.code yX6_isHalf cX6_isHalf 1 (some .boolean), Cond.methodLink RX6 48 yX6_in, Cond.static yX6_in, Cond.code yX6_in cX6_in 3 (some .boolean)]
def wsX6_lostOf_r2 : List Cond := [Cond.methodLink RX6 131 yX6_goes, Cond.static yX6_goes, Cond.code yX6_goes cX6_goes 7 (some .int), Cond.methodLink RX6 120 yX6_turned, Cond.static yX6_turned, Cond.code yX6_turned cX6_turned 2 (some .int), Cond.methodLink RX6 124 yX6_onward, Cond.static yX6_onward, Cond.code yX6_onward cX6_onward 7 (some .int), Cond.methodLink RX6 140 yX6_isAsked, Cond.static yX6_isAsked, Cond.code yX6_isAsked cX6_isAsked 2 (some .boolean), Cond.methodLink RX6 153 yX6_gathers, Cond.instanceMethod yX6_gathers, Cond.selects RX6 yX6_gathers yX6_gathers, Cond.code yX6_gathers cX6_gathers 8 none, Cond.fieldLink RX6 134 "MirrorSharesModel" "nodeMany" "I", Cond.fieldLink RX6 25 "MirrorSharesModel" "nodes" "[I", Cond.fieldLink RX6 28 "MirrorSharesModel" "comes" "[I", Cond.methodLink RX6 157 yX6_findsMay, Cond.instanceMethod yX6_findsMay, Cond.selects RX6 yX6_findsMay yX6_findsMay, Cond.code yX6_findsMay cX6_findsMay 6 none, Cond.fieldLink RX6 35 "MirrorSharesModel" "place" "[I"]
def wsX6_lostOf_r3 : List Cond := [Cond.methodLink RX6 161 yX6_laysRows, Cond.instanceMethod yX6_laysRows, Cond.selects RX6 yX6_laysRows yX6_laysRows, Cond.code yX6_laysRows cX6_laysRows 7 (some .int), Cond.fieldLink RX6 38 "MirrorSharesModel" "rows" "[J", Cond.constantLong RX6 144 (2), Cond.methodLink RX6 164 yX6_solves, Cond.instanceMethod yX6_solves, Cond.selects RX6 yX6_solves yX6_solves, Cond.code yX6_solves cX6_solves 11 none, Cond.methodLink RX6 167 yX6_lowers, Cond.instanceMethod yX6_lowers, Cond.selects RX6 yX6_lowers yX6_lowers, Cond.code yX6_lowers cX6_lowers 7 none]
def wsX6_lostOf : List Cond := .code yX6_lostOf cX6_lostOf 3 (some .long) :: ((wsX6_lostOf_r1 ++ (wsX6_lostOf_r2 ++ wsX6_lostOf_r3)) ++ wsX60)
def wsX6_lost_r1 : List Cond := [Cond.methodLink RX6 114 yX6_isPort, Cond.instanceMethod yX6_isPort, Cond.selects RX6 yX6_isPort yX6_isPort, Cond.initialized RX6, Cond.code yX6_isPort cX6_isPort 2 (some .boolean), Cond.fieldLink RX6 7 "MirrorSharesModel" "now" "[I", Cond.methodLink RX6 111 yX6_ports, Cond.static yX6_ports, Cond.code yX6_ports cX6_ports 1 (some .int), Cond.methodLink RX6 48 yX6_in, Cond.static yX6_in, Cond.code yX6_in cX6_in 3 (some .boolean), Cond.methodLink RX6 174 yX6_lostOf, Cond.instanceMethod yX6_lostOf, Cond.selects RX6 yX6_lostOf yX6_lostOf, Cond.code yX6_lostOf cX6_lostOf 3 (some .long), Cond.fieldLink RX6 150 "MirrorSharesModel" "below" "J", Cond.fieldLink RX6 146 "MirrorSharesModel" "above" "J", Cond.methodLink RX6 170 yX6_shares, Cond.instanceMethod yX6_shares, Cond.selects RX6 yX6_shares yX6_shares, Cond.code yX6_shares cX6_shares 5 none, Cond.fieldLink RX6 31 "MirrorSharesModel" "may" "[Z", Cond.methodLink RX6 117 yX6_portState]
def wsX6_lost_r2 : List Cond := [Cond.static yX6_portState, Cond.code yX6_portState cX6_portState 4 (some .int), Cond.methodLink RX6 137 yX6_follows, Cond.static yX6_follows, Cond.code yX6_follows cX6_follows 4 (some .int), Cond.methodLink RX6 128 yX6_waysOf, Cond.static yX6_waysOf, Cond.code yX6_waysOf cX6_waysOf 3 (some .int), Cond.methodLink RX6 56 yX6_isHalf, Cond.static yX6_isHalf, Cond.code yX6_isHalf cX6_isHalf 1 (some .boolean), Cond.methodLink RX6 131 yX6_goes, Cond.static yX6_goes, Cond.code yX6_goes cX6_goes 7 (some .int), Cond.methodLink RX6 120 yX6_turned, Cond.static yX6_turned, Cond.code yX6_turned cX6_turned 2 (some .int), Cond.methodLink RX6 124 yX6_onward, Cond.static yX6_onward, Cond.code yX6_onward cX6_onward 7 (some .int), Cond.methodLink RX6 140 yX6_isAsked, Cond.static yX6_isAsked, Cond.code yX6_isAsked cX6_isAsked 2 (some .boolean), Cond.methodLink RX6 153 yX6_gathers]
def wsX6_lost_r3 : List Cond := [Cond.instanceMethod yX6_gathers, Cond.selects RX6 yX6_gathers yX6_gathers, Cond.code yX6_gathers cX6_gathers 8 none, Cond.fieldLink RX6 134 "MirrorSharesModel" "nodeMany" "I", Cond.fieldLink RX6 25 "MirrorSharesModel" "nodes" "[I", Cond.fieldLink RX6 28 "MirrorSharesModel" "comes" "[I", Cond.methodLink RX6 157 yX6_findsMay, Cond.instanceMethod yX6_findsMay, Cond.selects RX6 yX6_findsMay yX6_findsMay, Cond.code yX6_findsMay cX6_findsMay 6 none, Cond.fieldLink RX6 35 "MirrorSharesModel" "place" "[I", Cond.methodLink RX6 161 yX6_laysRows, Cond.instanceMethod yX6_laysRows, Cond.selects RX6 yX6_laysRows yX6_laysRows, Cond.code yX6_laysRows cX6_laysRows 7 (some .int), Cond.fieldLink RX6 38 "MirrorSharesModel" "rows" "[J", Cond.constantLong RX6 144 (2), Cond.methodLink RX6 164 yX6_solves, Cond.instanceMethod yX6_solves, Cond.selects RX6 yX6_solves yX6_solves, Cond.code yX6_solves cX6_solves 11 none, Cond.methodLink RX6 167 yX6_lowers, Cond.instanceMethod yX6_lowers, Cond.selects RX6 yX6_lowers yX6_lowers]
def wsX6_lost_r4 : List Cond := [Cond.code yX6_lowers cX6_lowers 7 none]
def wsX6_lost : List Cond := .code yX6_lost cX6_lost 3 (some .int) :: ((wsX6_lost_r1 ++ (wsX6_lost_r2 ++ (wsX6_lost_r3 ++ wsX6_lost_r4))) ++ wsX60)
def wsJxf58ca_isNaN_12338 : List Cond := .code yJxf58ca_isNaN_12338 cJxf58ca_isNaN_12338 1 (some .boolean) :: ([])
def wsJxf58ca_floatToIntBits_5c35a : List Cond := .code yJxf58ca_floatToIntBits_5c35a cJxf58ca_floatToIntBits_5c35a 1 (some .int) :: ([.methodLink RJxf58ca 74 ⟨"java/lang/Float", "floatToRawIntBits", "(F)I"⟩, .native ⟨"java/lang/Float", "floatToRawIntBits", "(F)I"⟩, .static ⟨"java/lang/Float", "floatToRawIntBits", "(F)I"⟩, .initialized "java/lang/Float", .constant RJxf58ca 77 (2143289344), .methodLink RJxf58ca 59 yJxf58ca_isNaN_12338, .static yJxf58ca_isNaN_12338, .initialized RJxf58ca, .code yJxf58ca_isNaN_12338 cJxf58ca_isNaN_12338 1 (some .boolean)])
def wsX6_bits_r1 : List Cond := [Cond.fieldLink RX6 7 "MirrorSharesModel" "now" "[I", Cond.fieldLink RX6 146 "MirrorSharesModel" "above" "J", Cond.fieldLink RX6 150 "MirrorSharesModel" "below" "J", Cond.methodLink RX6 114 yX6_isPort, Cond.instanceMethod yX6_isPort, Cond.selects RX6 yX6_isPort yX6_isPort, Cond.initialized RX6, Cond.code yX6_isPort cX6_isPort 2 (some .boolean), Cond.methodLink RX6 111 yX6_ports, Cond.static yX6_ports, Cond.code yX6_ports cX6_ports 1 (some .int), Cond.methodLink RX6 48 yX6_in, Cond.static yX6_in, Cond.code yX6_in cX6_in 3 (some .boolean), Cond.methodLink RX6 170 yX6_shares, Cond.instanceMethod yX6_shares, Cond.selects RX6 yX6_shares yX6_shares, Cond.code yX6_shares cX6_shares 5 none, Cond.fieldLink RX6 31 "MirrorSharesModel" "may" "[Z", Cond.methodLink RX6 117 yX6_portState, Cond.static yX6_portState, Cond.code yX6_portState cX6_portState 4 (some .int), Cond.methodLink RX6 137 yX6_follows, Cond.static yX6_follows]
def wsX6_bits_r2 : List Cond := [Cond.code yX6_follows cX6_follows 4 (some .int), Cond.methodLink RX6 128 yX6_waysOf, Cond.static yX6_waysOf, Cond.code yX6_waysOf cX6_waysOf 3 (some .int), Cond.methodLink RX6 56 yX6_isHalf, Cond.static yX6_isHalf, Cond.code yX6_isHalf cX6_isHalf 1 (some .boolean), Cond.methodLink RX6 131 yX6_goes, Cond.static yX6_goes, Cond.code yX6_goes cX6_goes 7 (some .int), Cond.methodLink RX6 120 yX6_turned, Cond.static yX6_turned, Cond.code yX6_turned cX6_turned 2 (some .int), Cond.methodLink RX6 124 yX6_onward, Cond.static yX6_onward, Cond.code yX6_onward cX6_onward 7 (some .int), Cond.methodLink RX6 140 yX6_isAsked, Cond.static yX6_isAsked, Cond.code yX6_isAsked cX6_isAsked 2 (some .boolean), Cond.methodLink RX6 153 yX6_gathers, Cond.instanceMethod yX6_gathers, Cond.selects RX6 yX6_gathers yX6_gathers, Cond.code yX6_gathers cX6_gathers 8 none, Cond.fieldLink RX6 134 "MirrorSharesModel" "nodeMany" "I"]
def wsX6_bits_r3 : List Cond := [Cond.fieldLink RX6 25 "MirrorSharesModel" "nodes" "[I", Cond.fieldLink RX6 28 "MirrorSharesModel" "comes" "[I", Cond.methodLink RX6 157 yX6_findsMay, Cond.instanceMethod yX6_findsMay, Cond.selects RX6 yX6_findsMay yX6_findsMay, Cond.code yX6_findsMay cX6_findsMay 6 none, Cond.fieldLink RX6 35 "MirrorSharesModel" "place" "[I", Cond.methodLink RX6 161 yX6_laysRows, Cond.instanceMethod yX6_laysRows, Cond.selects RX6 yX6_laysRows yX6_laysRows, Cond.code yX6_laysRows cX6_laysRows 7 (some .int), Cond.fieldLink RX6 38 "MirrorSharesModel" "rows" "[J", Cond.constantLong RX6 144 (2), Cond.methodLink RX6 164 yX6_solves, Cond.instanceMethod yX6_solves, Cond.selects RX6 yX6_solves yX6_solves, Cond.code yX6_solves cX6_solves 11 none, Cond.methodLink RX6 167 yX6_lowers, Cond.instanceMethod yX6_lowers, Cond.selects RX6 yX6_lowers yX6_lowers, Cond.code yX6_lowers cX6_lowers 7 none, Cond.methodLink RX6 178 yJxf58ca_floatToIntBits_5c35a, Cond.static yJxf58ca_floatToIntBits_5c35a, Cond.initialized RJxf58ca]
def wsX6_bits_r4 : List Cond := [Cond.code yJxf58ca_floatToIntBits_5c35a cJxf58ca_floatToIntBits_5c35a 1 (some .int), Cond.methodLink RJxf58ca 74 ⟨"java/lang/Float", "floatToRawIntBits", "(F)I"⟩, Cond.native ⟨"java/lang/Float", "floatToRawIntBits", "(F)I"⟩, Cond.static ⟨"java/lang/Float", "floatToRawIntBits", "(F)I"⟩, Cond.initialized "java/lang/Float", Cond.constant RJxf58ca 77 (2143289344), Cond.methodLink RJxf58ca 59 yJxf58ca_isNaN_12338, Cond.static yJxf58ca_isNaN_12338, Cond.code yJxf58ca_isNaN_12338 cJxf58ca_isNaN_12338 1 (some .boolean)]
def wsX6_bits : List Cond := .code yX6_bits cX6_bits 3 (some .int) :: ((wsX6_bits_r1 ++ (wsX6_bits_r2 ++ (wsX6_bits_r3 ++ wsX6_bits_r4))) ++ wsX60)
def wsX6_spreads_r1 : List Cond := [Cond.fieldLink RX6 45 "MirrorSharesModel" "took" "[I", Cond.fieldLink RX6 42 "MirrorSharesModel" "line" "[I", Cond.fieldLink RX6 7 "MirrorSharesModel" "now" "[I", Cond.fieldLink RX6 184 "MirrorSharesModel" "met" "I", Cond.methodLink RX6 117 yX6_portState, Cond.static yX6_portState, Cond.initialized RX6, Cond.code yX6_portState cX6_portState 4 (some .int), Cond.methodLink RX6 128 yX6_waysOf, Cond.static yX6_waysOf, Cond.code yX6_waysOf cX6_waysOf 3 (some .int), Cond.methodLink RX6 56 yX6_isHalf, Cond.static yX6_isHalf, Cond.code yX6_isHalf cX6_isHalf 1 (some .boolean), Cond.methodLink RX6 48 yX6_in, Cond.static yX6_in, Cond.code yX6_in cX6_in 3 (some .boolean), Cond.methodLink RX6 131 yX6_goes, Cond.static yX6_goes, Cond.code yX6_goes cX6_goes 7 (some .int), Cond.methodLink RX6 120 yX6_turned, Cond.static yX6_turned, Cond.code yX6_turned cX6_turned 2 (some .int), Cond.methodLink RX6 124 yX6_onward]
def wsX6_spreads_r2 : List Cond := [Cond.static yX6_onward, Cond.code yX6_onward cX6_onward 7 (some .int)]
def wsX6_spreads : List Cond := .code yX6_spreads cX6_spreads 6 none :: ((wsX6_spreads_r1 ++ wsX6_spreads_r2) ++ wsX60)
def wsX6_lit_r1 : List Cond := [Cond.fieldLink RX6 184 "MirrorSharesModel" "met" "I", Cond.fieldLink RX6 42 "MirrorSharesModel" "line" "[I", Cond.methodLink RX6 114 yX6_isPort, Cond.instanceMethod yX6_isPort, Cond.selects RX6 yX6_isPort yX6_isPort, Cond.initialized RX6, Cond.code yX6_isPort cX6_isPort 2 (some .boolean), Cond.fieldLink RX6 7 "MirrorSharesModel" "now" "[I", Cond.methodLink RX6 111 yX6_ports, Cond.static yX6_ports, Cond.code yX6_ports cX6_ports 1 (some .int), Cond.methodLink RX6 48 yX6_in, Cond.static yX6_in, Cond.code yX6_in cX6_in 3 (some .boolean), Cond.methodLink RX6 187 yX6_spreads, Cond.instanceMethod yX6_spreads, Cond.selects RX6 yX6_spreads yX6_spreads, Cond.code yX6_spreads cX6_spreads 6 none, Cond.fieldLink RX6 45 "MirrorSharesModel" "took" "[I", Cond.methodLink RX6 117 yX6_portState, Cond.static yX6_portState, Cond.code yX6_portState cX6_portState 4 (some .int), Cond.methodLink RX6 128 yX6_waysOf, Cond.static yX6_waysOf]
def wsX6_lit_r2 : List Cond := [Cond.code yX6_waysOf cX6_waysOf 3 (some .int), Cond.methodLink RX6 56 yX6_isHalf, Cond.static yX6_isHalf, Cond.code yX6_isHalf cX6_isHalf 1 (some .boolean), Cond.methodLink RX6 131 yX6_goes, Cond.static yX6_goes, Cond.code yX6_goes cX6_goes 7 (some .int), Cond.methodLink RX6 120 yX6_turned, Cond.static yX6_turned, Cond.code yX6_turned cX6_turned 2 (some .int), Cond.methodLink RX6 124 yX6_onward, Cond.static yX6_onward, Cond.code yX6_onward cX6_onward 7 (some .int)]
def wsX6_lit : List Cond := .code yX6_lit cX6_lit 4 (some .int) :: ((wsX6_lit_r1 ++ wsX6_lit_r2) ++ wsX60)
def wsX6_far_r1 : List Cond := [Cond.fieldLink RX6 184 "MirrorSharesModel" "met" "I", Cond.fieldLink RX6 7 "MirrorSharesModel" "now" "[I", Cond.fieldLink RX6 42 "MirrorSharesModel" "line" "[I", Cond.fieldLink RX6 45 "MirrorSharesModel" "took" "[I", Cond.methodLink RX6 114 yX6_isPort, Cond.instanceMethod yX6_isPort, Cond.selects RX6 yX6_isPort yX6_isPort, Cond.initialized RX6, Cond.code yX6_isPort cX6_isPort 2 (some .boolean), Cond.methodLink RX6 111 yX6_ports, Cond.static yX6_ports, Cond.code yX6_ports cX6_ports 1 (some .int), Cond.methodLink RX6 48 yX6_in, Cond.static yX6_in, Cond.code yX6_in cX6_in 3 (some .boolean), Cond.methodLink RX6 187 yX6_spreads, Cond.instanceMethod yX6_spreads, Cond.selects RX6 yX6_spreads yX6_spreads, Cond.code yX6_spreads cX6_spreads 6 none, Cond.methodLink RX6 117 yX6_portState, Cond.static yX6_portState, Cond.code yX6_portState cX6_portState 4 (some .int), Cond.methodLink RX6 128 yX6_waysOf, Cond.static yX6_waysOf]
def wsX6_far_r2 : List Cond := [Cond.code yX6_waysOf cX6_waysOf 3 (some .int), Cond.methodLink RX6 56 yX6_isHalf, Cond.static yX6_isHalf, Cond.code yX6_isHalf cX6_isHalf 1 (some .boolean), Cond.methodLink RX6 131 yX6_goes, Cond.static yX6_goes, Cond.code yX6_goes cX6_goes 7 (some .int), Cond.methodLink RX6 120 yX6_turned, Cond.static yX6_turned, Cond.code yX6_turned cX6_turned 2 (some .int), Cond.methodLink RX6 124 yX6_onward, Cond.static yX6_onward, Cond.code yX6_onward cX6_onward 7 (some .int)]
def wsX6_far : List Cond := .code yX6_far cX6_far 5 (some .int) :: ((wsX6_far_r1 ++ wsX6_far_r2) ++ wsX60)
def wsX6_alike_r1 : List Cond := [Cond.methodLink RX6 114 yX6_isPort, Cond.instanceMethod yX6_isPort, Cond.selects RX6 yX6_isPort yX6_isPort, Cond.initialized RX6, Cond.code yX6_isPort cX6_isPort 2 (some .boolean), Cond.fieldLink RX6 7 "MirrorSharesModel" "now" "[I", Cond.methodLink RX6 111 yX6_ports, Cond.static yX6_ports, Cond.code yX6_ports cX6_ports 1 (some .int), Cond.methodLink RX6 48 yX6_in, Cond.static yX6_in, Cond.code yX6_in cX6_in 3 (some .boolean), Cond.methodLink RX6 174 yX6_lostOf, Cond.instanceMethod yX6_lostOf, Cond.selects RX6 yX6_lostOf yX6_lostOf, Cond.code yX6_lostOf cX6_lostOf 3 (some .long), Cond.fieldLink RX6 150 "MirrorSharesModel" "below" "J", Cond.fieldLink RX6 146 "MirrorSharesModel" "above" "J", Cond.methodLink RX6 170 yX6_shares, Cond.instanceMethod yX6_shares, Cond.selects RX6 yX6_shares yX6_shares, Cond.code yX6_shares cX6_shares 5 none, Cond.fieldLink RX6 31 "MirrorSharesModel" "may" "[Z", Cond.methodLink RX6 117 yX6_portState]
def wsX6_alike_r2 : List Cond := [Cond.static yX6_portState, Cond.code yX6_portState cX6_portState 4 (some .int), Cond.methodLink RX6 137 yX6_follows, Cond.static yX6_follows, Cond.code yX6_follows cX6_follows 4 (some .int), Cond.methodLink RX6 128 yX6_waysOf, Cond.static yX6_waysOf, Cond.code yX6_waysOf cX6_waysOf 3 (some .int), Cond.methodLink RX6 56 yX6_isHalf, Cond.static yX6_isHalf, Cond.code yX6_isHalf cX6_isHalf 1 (some .boolean), Cond.methodLink RX6 131 yX6_goes, Cond.static yX6_goes, Cond.code yX6_goes cX6_goes 7 (some .int), Cond.methodLink RX6 120 yX6_turned, Cond.static yX6_turned, Cond.code yX6_turned cX6_turned 2 (some .int), Cond.methodLink RX6 124 yX6_onward, Cond.static yX6_onward, Cond.code yX6_onward cX6_onward 7 (some .int), Cond.methodLink RX6 140 yX6_isAsked, Cond.static yX6_isAsked, Cond.code yX6_isAsked cX6_isAsked 2 (some .boolean), Cond.methodLink RX6 153 yX6_gathers]
def wsX6_alike_r3 : List Cond := [Cond.instanceMethod yX6_gathers, Cond.selects RX6 yX6_gathers yX6_gathers, Cond.code yX6_gathers cX6_gathers 8 none, Cond.fieldLink RX6 134 "MirrorSharesModel" "nodeMany" "I", Cond.fieldLink RX6 25 "MirrorSharesModel" "nodes" "[I", Cond.fieldLink RX6 28 "MirrorSharesModel" "comes" "[I", Cond.methodLink RX6 157 yX6_findsMay, Cond.instanceMethod yX6_findsMay, Cond.selects RX6 yX6_findsMay yX6_findsMay, Cond.code yX6_findsMay cX6_findsMay 6 none, Cond.fieldLink RX6 35 "MirrorSharesModel" "place" "[I", Cond.methodLink RX6 161 yX6_laysRows, Cond.instanceMethod yX6_laysRows, Cond.selects RX6 yX6_laysRows yX6_laysRows, Cond.code yX6_laysRows cX6_laysRows 7 (some .int), Cond.fieldLink RX6 38 "MirrorSharesModel" "rows" "[J", Cond.constantLong RX6 144 (2), Cond.methodLink RX6 164 yX6_solves, Cond.instanceMethod yX6_solves, Cond.selects RX6 yX6_solves yX6_solves, Cond.code yX6_solves cX6_solves 11 none, Cond.methodLink RX6 167 yX6_lowers, Cond.instanceMethod yX6_lowers, Cond.selects RX6 yX6_lowers yX6_lowers]
def wsX6_alike_r4 : List Cond := [Cond.code yX6_lowers cX6_lowers 7 none]
def wsX6_alike : List Cond := .code yX6_alike cX6_alike 5 (some .int) :: ((wsX6_alike_r1 ++ (wsX6_alike_r2 ++ (wsX6_alike_r3 ++ wsX6_alike_r4))) ++ wsX60)
def wsX6_ones : List Cond := .code yX6_ones cX6_ones 3 (some .int) :: ([])
def wsX6_best_r1 : List Cond := [Cond.constantLong RX6 190 (-1), Cond.fieldLink RX6 7 "MirrorSharesModel" "now" "[I", Cond.fieldLink RX6 16 "MirrorSharesModel" "aside" "[I", Cond.fieldLink RX6 146 "MirrorSharesModel" "above" "J", Cond.fieldLink RX6 150 "MirrorSharesModel" "below" "J", Cond.methodLink RX6 114 yX6_isPort, Cond.instanceMethod yX6_isPort, Cond.selects RX6 yX6_isPort yX6_isPort, Cond.initialized RX6, Cond.code yX6_isPort cX6_isPort 2 (some .boolean), Cond.methodLink RX6 111 yX6_ports, Cond.static yX6_ports, Cond.code yX6_ports cX6_ports 1 (some .int), Cond.methodLink RX6 48 yX6_in, Cond.static yX6_in, Cond.code yX6_in cX6_in 3 (some .boolean), Cond.methodLink RX6 77 yX6_doors, Cond.static yX6_doors, Cond.code yX6_doors cX6_doors 3 (some .int), Cond.methodLink RX6 52 yX6_cells, Cond.static yX6_cells, Cond.code yX6_cells cX6_cells 1 (some .int), Cond.methodLink RX6 60 yX6_isDoor, Cond.static yX6_isDoor]
def wsX6_best_r2 : List Cond := [Cond.code yX6_isDoor cX6_isDoor 1 (some .boolean), Cond.methodLink RX6 88 yX6_copies, Cond.static yX6_copies, Cond.code yX6_copies cX6_copies 5 none, Cond.methodLink RX6 104 yX6_doorCell, Cond.static yX6_doorCell, Cond.code yX6_doorCell cX6_doorCell 4 (some .int), Cond.methodLink RX6 170 yX6_shares, Cond.instanceMethod yX6_shares, Cond.selects RX6 yX6_shares yX6_shares, Cond.code yX6_shares cX6_shares 5 none, Cond.fieldLink RX6 31 "MirrorSharesModel" "may" "[Z", Cond.methodLink RX6 117 yX6_portState, Cond.static yX6_portState, Cond.code yX6_portState cX6_portState 4 (some .int), Cond.methodLink RX6 137 yX6_follows, Cond.static yX6_follows, Cond.code yX6_follows cX6_follows 4 (some .int), Cond.methodLink RX6 128 yX6_waysOf, Cond.static yX6_waysOf, Cond.code yX6_waysOf cX6_waysOf 3 (some .int), Cond.methodLink RX6 56 yX6_isHalf, Cond.static yX6_isHalf, Cond.code yX6_isHalf cX6_isHalf 1 (some .boolean)]
def wsX6_best_r3 : List Cond := [Cond.methodLink RX6 131 yX6_goes, Cond.static yX6_goes, Cond.code yX6_goes cX6_goes 7 (some .int), Cond.methodLink RX6 120 yX6_turned, Cond.static yX6_turned, Cond.code yX6_turned cX6_turned 2 (some .int), Cond.methodLink RX6 124 yX6_onward, Cond.static yX6_onward, Cond.code yX6_onward cX6_onward 7 (some .int), Cond.methodLink RX6 140 yX6_isAsked, Cond.static yX6_isAsked, Cond.code yX6_isAsked cX6_isAsked 2 (some .boolean), Cond.methodLink RX6 153 yX6_gathers, Cond.instanceMethod yX6_gathers, Cond.selects RX6 yX6_gathers yX6_gathers, Cond.code yX6_gathers cX6_gathers 8 none, Cond.fieldLink RX6 134 "MirrorSharesModel" "nodeMany" "I", Cond.fieldLink RX6 25 "MirrorSharesModel" "nodes" "[I", Cond.fieldLink RX6 28 "MirrorSharesModel" "comes" "[I", Cond.methodLink RX6 157 yX6_findsMay, Cond.instanceMethod yX6_findsMay, Cond.selects RX6 yX6_findsMay yX6_findsMay, Cond.code yX6_findsMay cX6_findsMay 6 none, Cond.fieldLink RX6 35 "MirrorSharesModel" "place" "[I"]
def wsX6_best_r4 : List Cond := [Cond.methodLink RX6 161 yX6_laysRows, Cond.instanceMethod yX6_laysRows, Cond.selects RX6 yX6_laysRows yX6_laysRows, Cond.code yX6_laysRows cX6_laysRows 7 (some .int), Cond.fieldLink RX6 38 "MirrorSharesModel" "rows" "[J", Cond.constantLong RX6 144 (2), Cond.methodLink RX6 164 yX6_solves, Cond.instanceMethod yX6_solves, Cond.selects RX6 yX6_solves yX6_solves, Cond.code yX6_solves cX6_solves 11 none, Cond.methodLink RX6 167 yX6_lowers, Cond.instanceMethod yX6_lowers, Cond.selects RX6 yX6_lowers yX6_lowers, Cond.code yX6_lowers cX6_lowers 7 none, Cond.methodLink RX6 192 yX6_ones, Cond.static yX6_ones, Cond.code yX6_ones cX6_ones 3 (some .int)]
def wsX6_best : List Cond := .code yX6_best cX6_best 13 (some .int) :: ((wsX6_best_r1 ++ (wsX6_best_r2 ++ (wsX6_best_r3 ++ wsX6_best_r4))) ++ wsX60)
def wsX6_found_r1 : List Cond := [Cond.fieldLink RX6 7 "MirrorSharesModel" "now" "[I", Cond.fieldLink RX6 16 "MirrorSharesModel" "aside" "[I", Cond.fieldLink RX6 146 "MirrorSharesModel" "above" "J", Cond.fieldLink RX6 150 "MirrorSharesModel" "below" "J", Cond.methodLink RX6 114 yX6_isPort, Cond.instanceMethod yX6_isPort, Cond.selects RX6 yX6_isPort yX6_isPort, Cond.initialized RX6, Cond.code yX6_isPort cX6_isPort 2 (some .boolean), Cond.methodLink RX6 111 yX6_ports, Cond.static yX6_ports, Cond.code yX6_ports cX6_ports 1 (some .int), Cond.methodLink RX6 48 yX6_in, Cond.static yX6_in, Cond.code yX6_in cX6_in 3 (some .boolean), Cond.methodLink RX6 52 yX6_cells, Cond.static yX6_cells, Cond.code yX6_cells cX6_cells 1 (some .int), Cond.methodLink RX6 88 yX6_copies, Cond.static yX6_copies, Cond.code yX6_copies cX6_copies 5 none, Cond.methodLink RX6 170 yX6_shares, Cond.instanceMethod yX6_shares, Cond.selects RX6 yX6_shares yX6_shares]
def wsX6_found_r2 : List Cond := [Cond.code yX6_shares cX6_shares 5 none, Cond.fieldLink RX6 31 "MirrorSharesModel" "may" "[Z", Cond.methodLink RX6 117 yX6_portState, Cond.static yX6_portState, Cond.code yX6_portState cX6_portState 4 (some .int), Cond.methodLink RX6 137 yX6_follows, Cond.static yX6_follows, Cond.code yX6_follows cX6_follows 4 (some .int), Cond.methodLink RX6 128 yX6_waysOf, Cond.static yX6_waysOf, Cond.code yX6_waysOf cX6_waysOf 3 (some .int), Cond.methodLink RX6 56 yX6_isHalf, Cond.static yX6_isHalf, Cond.code yX6_isHalf cX6_isHalf 1 (some .boolean), Cond.methodLink RX6 131 yX6_goes, Cond.static yX6_goes, Cond.code yX6_goes cX6_goes 7 (some .int), Cond.methodLink RX6 120 yX6_turned, Cond.static yX6_turned, Cond.code yX6_turned cX6_turned 2 (some .int), Cond.methodLink RX6 124 yX6_onward, Cond.static yX6_onward, Cond.code yX6_onward cX6_onward 7 (some .int), Cond.methodLink RX6 140 yX6_isAsked]
def wsX6_found_r3 : List Cond := [Cond.static yX6_isAsked, Cond.code yX6_isAsked cX6_isAsked 2 (some .boolean), Cond.methodLink RX6 153 yX6_gathers, Cond.instanceMethod yX6_gathers, Cond.selects RX6 yX6_gathers yX6_gathers, Cond.code yX6_gathers cX6_gathers 8 none, Cond.fieldLink RX6 134 "MirrorSharesModel" "nodeMany" "I", Cond.fieldLink RX6 25 "MirrorSharesModel" "nodes" "[I", Cond.fieldLink RX6 28 "MirrorSharesModel" "comes" "[I", Cond.methodLink RX6 157 yX6_findsMay, Cond.instanceMethod yX6_findsMay, Cond.selects RX6 yX6_findsMay yX6_findsMay, Cond.code yX6_findsMay cX6_findsMay 6 none, Cond.fieldLink RX6 35 "MirrorSharesModel" "place" "[I", Cond.methodLink RX6 161 yX6_laysRows, Cond.instanceMethod yX6_laysRows, Cond.selects RX6 yX6_laysRows yX6_laysRows, Cond.code yX6_laysRows cX6_laysRows 7 (some .int), Cond.fieldLink RX6 38 "MirrorSharesModel" "rows" "[J", Cond.constantLong RX6 144 (2), Cond.methodLink RX6 164 yX6_solves, Cond.instanceMethod yX6_solves, Cond.selects RX6 yX6_solves yX6_solves, Cond.code yX6_solves cX6_solves 11 none]
def wsX6_found_r4 : List Cond := [Cond.methodLink RX6 167 yX6_lowers, Cond.instanceMethod yX6_lowers, Cond.selects RX6 yX6_lowers yX6_lowers, Cond.code yX6_lowers cX6_lowers 7 none]
def wsX6_found : List Cond := .code yX6_found cX6_found 10 (some .int) :: ((wsX6_found_r1 ++ (wsX6_found_r2 ++ (wsX6_found_r3 ++ wsX6_found_r4))) ++ wsX60)
def wsX6_count_r1 : List Cond := [Cond.fieldLink RX6 7 "MirrorSharesModel" "now" "[I", Cond.fieldLink RX6 92 "MirrorSharesModel" "changes" "I", Cond.fieldLink RX6 67 "MirrorSharesModel" "letters" "I", Cond.methodLink RX6 52 yX6_cells, Cond.static yX6_cells, Cond.initialized RX6, Cond.code yX6_cells cX6_cells 1 (some .int), Cond.methodLink RX6 48 yX6_in, Cond.static yX6_in, Cond.code yX6_in cX6_in 3 (some .boolean), Cond.methodLink RX6 74 yX6_halves, Cond.static yX6_halves, Cond.code yX6_halves cX6_halves 3 (some .int), Cond.methodLink RX6 56 yX6_isHalf, Cond.static yX6_isHalf, Cond.code yX6_isHalf cX6_isHalf 1 (some .boolean), Cond.methodLink RX6 77 yX6_doors, Cond.static yX6_doors, Cond.code yX6_doors cX6_doors 3 (some .int), Cond.methodLink RX6 60 yX6_isDoor, Cond.static yX6_isDoor, Cond.code yX6_isDoor cX6_isDoor 1 (some .boolean), Cond.methodLink RX6 108 yX6_openOf, Cond.static yX6_openOf]
def wsX6_count_r2 : List Cond := [Cond.code yX6_openOf cX6_openOf 3 (some .int), Cond.methodLink RX6 111 yX6_ports, Cond.static yX6_ports, Cond.code yX6_ports cX6_ports 1 (some .int)]
def wsX6_count : List Cond := .code yX6_count cX6_count 5 (some .int) :: ((wsX6_count_r1 ++ wsX6_count_r2) ++ wsX60)
def wsJ9_max_7cf53 : List Cond := .code yJ9_max_7cf53 cJ9_max_7cf53 2 (some .int) :: ([])
def wsJ9_min_7cf53 : List Cond := .code yJ9_min_7cf53 cJ9_min_7cf53 2 (some .int) :: ([])
def wsL_law_r1 : List Cond := [Cond.classLink RL 7 RX5, Cond.instantiable RX5 6, Cond.initialized RX5, Cond.classLink RL 10 RX6, Cond.instantiable RX6 19, Cond.initialized RX6, Cond.methodLink RL 9 yX5_init, Cond.instanceMethod yX5_init, Cond.code yX5_init cX5_init 1 none, Cond.methodLink RX5 3 objectInit, Cond.instanceMethod objectInit, Cond.code objectInit ⟨#[0xb1]⟩ 1 none, Cond.classLink RX5 9 RX3, Cond.instantiable RX3 2, Cond.initialized RX3, Cond.fieldLink RX5 12 "MirrorShares" "text" "LMirrorShares$Told;", Cond.classLink RX5 16 RX2, Cond.instantiable RX2 3, Cond.initialized RX2, Cond.fieldLink RX5 19 "MirrorShares" "room" "LMirrorShares$Room;", Cond.fieldLink RX5 23 "MirrorShares" "trial" "LMirrorShares$Room;", Cond.classLink RX5 26 RX1, Cond.instantiable RX1 2, Cond.initialized RX1]
def wsL_law_r2 : List Cond := [Cond.fieldLink RX5 29 "MirrorShares" "past" "LMirrorShares$Past;", Cond.classLink RX5 33 RX4, Cond.instantiable RX4 5, Cond.initialized RX4, Cond.fieldLink RX5 36 "MirrorShares" "walk" "LMirrorShares$Walk;", Cond.classLink RX5 40 RX0, Cond.instantiable RX0 7, Cond.initialized RX0, Cond.fieldLink RX5 43 "MirrorShares" "beam" "LMirrorShares$Beam;", Cond.instanceMethod yX3_init, Cond.code yX3_init cX3_init 1 none, Cond.methodLink RX3 3 objectInit, Cond.arrayClass .int, Cond.fieldLink RX3 9 "MirrorShares$Told" "letters" "[I", Cond.fieldLink RX3 15 "MirrorShares$Told" "length" "I", Cond.methodLink RX5 18 yX2_init, Cond.instanceMethod yX2_init, Cond.code yX2_init cX2_init 1 none, Cond.methodLink RX2 3 objectInit, Cond.fieldLink RX2 9 "MirrorShares$Room" "kinds" "[I", Cond.fieldLink RX2 15 "MirrorShares$Room" "columns" "I", Cond.fieldLink RX2 19 "MirrorShares$Room" "rows" "I", Cond.methodLink RX2 25 arraycopyName, Cond.native arraycopyName]
def wsL_law_r3 : List Cond := [Cond.static arraycopyName, Cond.initialized "java/lang/System", Cond.instanceMethod yX1_init, Cond.code yX1_init cX1_init 1 none, Cond.methodLink RX1 3 objectInit, Cond.fieldLink RX1 9 "MirrorShares$Past" "changes" "[I", Cond.fieldLink RX1 15 "MirrorShares$Past" "size" "I", Cond.instanceMethod yX4_init, Cond.code yX4_init cX4_init 1 none, Cond.methodLink RX4 3 objectInit, Cond.fieldLink RX4 11 "MirrorShares$Walk" "queue" "[I", Cond.fieldLink RX4 15 "MirrorShares$Walk" "cellsTo" "[I", Cond.fieldLink RX4 18 "MirrorShares$Walk" "cellsToPort" "[I", Cond.fieldLink RX4 21 "MirrorShares$Walk" "waiting" "I", Cond.fieldLink RX4 25 "MirrorShares$Walk" "litCells" "I", Cond.instanceMethod yX0_init, Cond.code yX0_init cX0_init 1 none, Cond.methodLink RX0 5 objectInit, Cond.fieldLink RX0 11 "MirrorShares$Beam" "splitPlace" "[I", Cond.fieldLink RX0 15 "MirrorShares$Beam" "splitNumber" "[I", Cond.fieldLink RX0 18 "MirrorShares$Beam" "rayEnd" "[I", Cond.classLink RX0 21 "[[J", Cond.arrayClass .long, Cond.fieldLink RX0 23 "MirrorShares$Beam" "rows" "[[J"]
def wsL_law_r4 : List Cond := [Cond.fieldLink RX0 26 "MirrorShares$Beam" "parts" "[J", Cond.fieldLink RX0 30 "MirrorShares$Beam" "splits" "I", Cond.fieldLink RX0 34 "MirrorShares$Beam" "whole" "J", Cond.methodLink RL 12 yX6_init, Cond.instanceMethod yX6_init, Cond.code yX6_init cX6_init 1 none, Cond.methodLink RX6 1 objectInit, Cond.fieldLink RX6 7 "MirrorSharesModel" "now" "[I", Cond.fieldLink RX6 13 "MirrorSharesModel" "read" "[I", Cond.fieldLink RX6 16 "MirrorSharesModel" "aside" "[I", Cond.fieldLink RX6 19 "MirrorSharesModel" "past" "[I", Cond.fieldLink RX6 22 "MirrorSharesModel" "text" "[I", Cond.fieldLink RX6 25 "MirrorSharesModel" "nodes" "[I", Cond.fieldLink RX6 28 "MirrorSharesModel" "comes" "[I", Cond.arrayClass .boolean, Cond.fieldLink RX6 31 "MirrorSharesModel" "may" "[Z", Cond.fieldLink RX6 35 "MirrorSharesModel" "place" "[I", Cond.fieldLink RX6 38 "MirrorSharesModel" "rows" "[J", Cond.fieldLink RX6 42 "MirrorSharesModel" "line" "[I", Cond.fieldLink RX6 45 "MirrorSharesModel" "took" "[I", Cond.methodLink RL 13 yX5_write, Cond.instanceMethod yX5_write, Cond.selects RX5 yX5_write yX5_write, Cond.code yX5_write cX5_write 2 (some .int)]
def wsL_law_r5 : List Cond := [Cond.methodLink RX5 47 yX3_append, Cond.instanceMethod yX3_append, Cond.selects RX3 yX3_append yX3_append, Cond.code yX3_append cX3_append 2 (some .int), Cond.methodLink RL 17 yX6_write, Cond.instanceMethod yX6_write, Cond.selects RX6 yX6_write yX6_write, Cond.code yX6_write cX6_write 2 (some .int), Cond.fieldLink RX6 67 "MirrorSharesModel" "letters" "I", Cond.methodLink RX6 48 yX6_in, Cond.static yX6_in, Cond.code yX6_in cX6_in 3 (some .boolean), Cond.methodLink RL 18 yX5_wipe, Cond.instanceMethod yX5_wipe, Cond.selects RX5 yX5_wipe yX5_wipe, Cond.code yX5_wipe cX5_wipe 1 (some .int), Cond.methodLink RX5 51 yX3_clear, Cond.instanceMethod yX3_clear, Cond.selects RX3 yX3_clear yX3_clear, Cond.code yX3_clear cX3_clear 2 (some .int), Cond.methodLink RL 22 yX6_wipe, Cond.instanceMethod yX6_wipe, Cond.selects RX6 yX6_wipe yX6_wipe, Cond.code yX6_wipe cX6_wipe 2 (some .int)]
def wsL_law_r6 : List Cond := [Cond.methodLink RL 23 yX5_fault, Cond.instanceMethod yX5_fault, Cond.selects RX5 yX5_fault yX5_fault, Cond.code yX5_fault cX5_fault 1 (some .int), Cond.methodLink RX5 55 yX3_readInto, Cond.instanceMethod yX3_readInto, Cond.selects RX3 yX3_readInto yX3_readInto, Cond.code yX3_readInto cX3_readInto 5 (some .int), Cond.methodLink RX3 19 yX2_empty, Cond.instanceMethod yX2_empty, Cond.selects RX2 yX2_empty yX2_empty, Cond.code yX2_empty cX2_empty 1 none, Cond.methodLink RX3 24 yX3_endOfItem, Cond.instanceMethod yX3_endOfItem, Cond.selects RX3 yX3_endOfItem yX3_endOfItem, Cond.code yX3_endOfItem cX3_endOfItem 3 (some .int), Cond.methodLink RX3 32 yX3_letterAt, Cond.instanceMethod yX3_letterAt, Cond.selects RX3 yX3_letterAt yX3_letterAt, Cond.code yX3_letterAt cX3_letterAt 2 (some .int), Cond.methodLink RX3 28 yX3_readRow, Cond.instanceMethod yX3_readRow, Cond.selects RX3 yX3_readRow yX3_readRow, Cond.code yX3_readRow cX3_readRow 8 (some .boolean)]
def wsL_law_r7 : List Cond := [Cond.methodLink RX3 35 yX2_addRow, Cond.instanceMethod yX2_addRow, Cond.selects RX2 yX2_addRow yX2_addRow, Cond.code yX2_addRow cX2_addRow 3 (some .boolean), Cond.methodLink RX3 39 yX2_cells, Cond.instanceMethod yX2_cells, Cond.selects RX2 yX2_cells yX2_cells, Cond.code yX2_cells cX2_cells 1 (some .int), Cond.methodLink RX3 45 yJ0_indexOf_0f7a4, Cond.instanceMethod yJ0_indexOf_0f7a4, Cond.selects RJ0 yJ0_indexOf_0f7a4 yJ0_indexOf_0f7a4, Cond.initialized RJ0, Cond.code yJ0_indexOf_0f7a4 cJ0_indexOf_0f7a4 2 (some .int), Cond.methodLink RJ0 633 yJ0_indexOf_7cf53, Cond.instanceMethod yJ0_indexOf_7cf53, Cond.selects RJ0 yJ0_indexOf_7cf53 yJ0_indexOf_7cf53, Cond.code yJ0_indexOf_7cf53 cJ0_indexOf_7cf53 3 (some .int), Cond.fieldLink RJ0 9 "java/lang/String" "value" "[B", Cond.methodLink RJ0 492 yJ0_isLatin1_aae02, Cond.instanceMethod yJ0_isLatin1_aae02, Cond.selects RJ0 yJ0_isLatin1_aae02 yJ0_isLatin1_aae02, Cond.code yJ0_isLatin1_aae02 cJ0_isLatin1_aae02 1 (some .boolean), Cond.fieldLink RJ0 38 "java/lang/String" "COMPACT_STRINGS" "Z", Cond.fieldLink RJ0 15 "java/lang/String" "coder" "B"]
def wsL_law_r8 : List Cond := [Cond.methodLink RJ0 505 yJ0_length_8abf5, Cond.instanceMethod yJ0_length_8abf5, Cond.selects RJ0 yJ0_length_8abf5 yJ0_length_8abf5, Cond.code yJ0_length_8abf5 cJ0_length_8abf5 1 (some .int), Cond.methodLink RJ0 335 yJ0_coder_7d493, Cond.instanceMethod yJ0_coder_7d493, Cond.selects RJ0 yJ0_coder_7d493 yJ0_coder_7d493, Cond.code yJ0_coder_7d493 cJ0_coder_7d493 1 (some .byte), Cond.methodLink RJ0 637 yJ1_indexOf_4cfef, Cond.static yJ1_indexOf_4cfef, Cond.initialized RJ1, Cond.code yJ1_indexOf_4cfef cJ1_indexOf_4cfef 4 (some .int), Cond.methodLink RJ1 92 Lib.Math.max.name, Cond.static Lib.Math.max.name, Cond.initialized "java/lang/Math", Cond.code Lib.Math.max.name Lib.Math.max.code 2 (some .int), Cond.methodLink RJ1 38 Lib.Math.min.name, Cond.static Lib.Math.min.name, Cond.code Lib.Math.min.name Lib.Math.min.code 2 (some .int), Cond.methodLink RJ1 88 yJ1_canEncode_9a6ad, Cond.static yJ1_canEncode_9a6ad, Cond.code yJ1_canEncode_9a6ad cJ1_canEncode_9a6ad 1 (some .boolean), Cond.methodLink RJ1 95 yJ1_indexOfChar_4cfef, Cond.static yJ1_indexOfChar_4cfef]
def wsL_law_r9 : List Cond := [Cond.code yJ1_indexOfChar_4cfef cJ1_indexOfChar_4cfef 6 (some .int), Cond.methodLink RJ0 640 yJ2_indexOf_4cfef, Cond.static yJ2_indexOf_4cfef, Cond.initialized RJ2, Cond.code yJ2_indexOf_4cfef cJ2_indexOf_4cfef 4 (some .int), Cond.methodLink RJ2 224 Lib.Math.max.name, Cond.methodLink RJ2 183 Lib.Math.min.name, Cond.constant RJ2 227 (65536), Cond.methodLink RJ2 228 yJ2_indexOfChar_4cfef, Cond.static yJ2_indexOfChar_4cfef, Cond.code yJ2_indexOfChar_4cfef cJ2_indexOfChar_4cfef 4 (some .int), Cond.methodLink RJ2 96 yJ2_checkBoundsBeginEnd_d044e, Cond.static yJ2_checkBoundsBeginEnd_d044e, Cond.code yJ2_checkBoundsBeginEnd_d044e cJ2_checkBoundsBeginEnd_d044e 3 none, Cond.methodLink RJ2 48 yJ2_length_9d52b, Cond.static yJ2_length_9d52b, Cond.code yJ2_length_9d52b cJ2_length_9d52b 1 (some .int), Cond.methodLink RJ2 241 yJ0_checkBoundsBeginEnd_23922, Cond.static yJ0_checkBoundsBeginEnd_23922, Cond.code yJ0_checkBoundsBeginEnd_23922 cJ0_checkBoundsBeginEnd_23922 3 none, Cond.fieldLink RJ0 1053 "jdk/internal/util/Preconditions" "SIOOBE_FORMATTER" "Ljava/util/function/BiFunction;", Cond.methodLink RJ0 1062 yJ3_checkFromToIndex_8c36e, Cond.static yJ3_checkFromToIndex_8c36e, Cond.initialized RJ3]
def wsL_law_r10 : List Cond := [Cond.code yJ3_checkFromToIndex_8c36e cJ3_checkFromToIndex_8c36e 4 (some .int), Cond.methodLink RJ2 244 yJ2_indexOfCharUnsafe_4cfef, Cond.static yJ2_indexOfCharUnsafe_4cfef, Cond.code yJ2_indexOfCharUnsafe_4cfef cJ2_indexOfCharUnsafe_4cfef 5 (some .int), Cond.methodLink RJ2 71 yJ2_getChar_3b067, Cond.static yJ2_getChar_3b067, Cond.code yJ2_getChar_3b067 cJ2_getChar_3b067 2 (some .char), Cond.fieldLink RJ2 44 "java/lang/StringUTF16" "$assertionsDisabled" "Z", Cond.fieldLink RJ2 59 "java/lang/StringUTF16" "HI_BYTE_SHIFT" "I", Cond.fieldLink RJ2 63 "java/lang/StringUTF16" "LO_BYTE_SHIFT" "I", Cond.methodLink RJ2 232 yJ2_indexOfSupplementary_4cfef, Cond.static yJ2_indexOfSupplementary_4cfef, Cond.code yJ2_indexOfSupplementary_4cfef cJ2_indexOfSupplementary_4cfef 7 (some .int), Cond.methodLink RJ2 164 yJ11_isValidCodePoint_9a6ad, Cond.static yJ11_isValidCodePoint_9a6ad, Cond.initialized RJ11, Cond.code yJ11_isValidCodePoint_9a6ad cJ11_isValidCodePoint_9a6ad 2 (some .boolean), Cond.methodLink RJ2 157 yJ11_highSurrogate_5068e, Cond.static yJ11_highSurrogate_5068e, Cond.code yJ11_highSurrogate_5068e cJ11_highSurrogate_5068e 1 (some .char), Cond.constant RJ11 110 (55232), Cond.methodLink RJ2 161 yJ11_lowSurrogate_5068e, Cond.static yJ11_lowSurrogate_5068e, Cond.code yJ11_lowSurrogate_5068e cJ11_lowSurrogate_5068e 1 (some .char)]
def wsL_law_r11 : List Cond := [Cond.constant RJ11 76 (56320), Cond.methodLink RX3 50 yX2_tell, Cond.instanceMethod yX2_tell, Cond.selects RX2 yX2_tell yX2_tell, Cond.code yX2_tell cX2_tell 3 none, Cond.methodLink RX2 35 yX2_cells, Cond.methodLink RX3 54 yX2_isOverfull, Cond.instanceMethod yX2_isOverfull, Cond.selects RX2 yX2_isOverfull yX2_isOverfull, Cond.code yX2_isOverfull cX2_isOverfull 1 (some .boolean), Cond.methodLink RX2 42 yX2_countKinds, Cond.instanceMethod yX2_countKinds, Cond.selects RX2 yX2_countKinds yX2_countKinds, Cond.code yX2_countKinds cX2_countKinds 6 (some .int), Cond.methodLink RX2 38 yX2_kindAt, Cond.instanceMethod yX2_kindAt, Cond.selects RX2 yX2_kindAt yX2_kindAt, Cond.code yX2_kindAt cX2_kindAt 2 (some .int), Cond.methodLink RL 26 yX6_fault, Cond.instanceMethod yX6_fault, Cond.selects RX6 yX6_fault yX6_fault, Cond.code yX6_fault cX6_fault 1 (some .int), Cond.methodLink RX6 84 yX6_reads, Cond.instanceMethod yX6_reads]
def wsL_law_r12 : List Cond := [Cond.selects RX6 yX6_reads yX6_reads, Cond.code yX6_reads cX6_reads 2 (some .int), Cond.fieldLink RX6 63 "MirrorSharesModel" "spot" "I", Cond.methodLink RX6 80 yX6_takesRow, Cond.instanceMethod yX6_takesRow, Cond.selects RX6 yX6_takesRow yX6_takesRow, Cond.code yX6_takesRow cX6_takesRow 4 (some .boolean), Cond.methodLink RX6 70 yX6_kindOf, Cond.static yX6_kindOf, Cond.code yX6_kindOf cX6_kindOf 1 (some .int), Cond.methodLink RX6 74 yX6_halves, Cond.static yX6_halves, Cond.code yX6_halves cX6_halves 3 (some .int), Cond.methodLink RX6 52 yX6_cells, Cond.static yX6_cells, Cond.code yX6_cells cX6_cells 1 (some .int), Cond.methodLink RX6 56 yX6_isHalf, Cond.static yX6_isHalf, Cond.code yX6_isHalf cX6_isHalf 1 (some .boolean), Cond.methodLink RX6 77 yX6_doors, Cond.static yX6_doors, Cond.code yX6_doors cX6_doors 3 (some .int), Cond.methodLink RX6 60 yX6_isDoor, Cond.static yX6_isDoor]
def wsL_law_r13 : List Cond := [Cond.code yX6_isDoor cX6_isDoor 1 (some .boolean), Cond.methodLink RL 27 yX5_lay, Cond.instanceMethod yX5_lay, Cond.selects RX5 yX5_lay yX5_lay, Cond.code yX5_lay cX5_lay 1 (some .int), Cond.methodLink RX5 63 yX2_become, Cond.instanceMethod yX2_become, Cond.selects RX2 yX2_become yX2_become, Cond.code yX2_become cX2_become 2 none, Cond.methodLink RX5 67 yX1_forget, Cond.instanceMethod yX1_forget, Cond.selects RX1 yX1_forget yX1_forget, Cond.code yX1_forget cX1_forget 1 none, Cond.methodLink RX5 70 yX2_cells, Cond.methodLink RL 30 yX6_lay, Cond.instanceMethod yX6_lay, Cond.selects RX6 yX6_lay yX6_lay, Cond.code yX6_lay cX6_lay 1 (some .int), Cond.fieldLink RX6 92 "MirrorSharesModel" "changes" "I", Cond.methodLink RX6 88 yX6_copies, Cond.static yX6_copies, Cond.code yX6_copies cX6_copies 5 none, Cond.methodLink RL 31 yX5_put, Cond.instanceMethod yX5_put]
def wsL_law_r14 : List Cond := [Cond.selects RX5 yX5_put yX5_put, Cond.code yX5_put cX5_put 4 (some .int), Cond.methodLink RX5 73 yX2_kindAt, Cond.methodLink RX5 76 yX5_tryCell, Cond.instanceMethod yX5_tryCell, Cond.selects RX5 yX5_tryCell yX5_tryCell, Cond.code yX5_tryCell cX5_tryCell 3 none, Cond.methodLink RX5 120 yX2_tell, Cond.methodLink RX5 80 yX2_isOverfull, Cond.methodLink RX5 84 yX5_change, Cond.instanceMethod yX5_change, Cond.selects RX5 yX5_change yX5_change, Cond.code yX5_change cX5_change 4 none, Cond.methodLink RX5 123 yX1_rememberKind, Cond.instanceMethod yX1_rememberKind, Cond.selects RX1 yX1_rememberKind yX1_rememberKind, Cond.code yX1_rememberKind cX1_rememberKind 3 none, Cond.methodLink RX1 19 yX1_remember, Cond.instanceMethod yX1_remember, Cond.selects RX1 yX1_remember yX1_remember, Cond.code yX1_remember cX1_remember 2 none, Cond.methodLink RX1 23 arraycopyName, Cond.methodLink RL 35 yX6_put, Cond.instanceMethod yX6_put]
def wsL_law_r15 : List Cond := [Cond.selects RX6 yX6_put yX6_put, Cond.code yX6_put cX6_put 6 (some .int), Cond.methodLink RX6 95 yX6_isCell, Cond.instanceMethod yX6_isCell, Cond.selects RX6 yX6_isCell yX6_isCell, Cond.code yX6_isCell cX6_isCell 2 (some .boolean), Cond.methodLink RX6 98 yX6_keeps, Cond.instanceMethod yX6_keeps, Cond.selects RX6 yX6_keeps yX6_keeps, Cond.code yX6_keeps cX6_keeps 2 none, Cond.methodLink RL 36 yX5_door, Cond.instanceMethod yX5_door, Cond.selects RX5 yX5_door yX5_door, Cond.code yX5_door cX5_door 6 (some .int), Cond.methodLink RX5 88 yX2_doorCell, Cond.instanceMethod yX2_doorCell, Cond.selects RX2 yX2_doorCell yX2_doorCell, Cond.code yX2_doorCell cX2_doorCell 4 (some .int), Cond.methodLink RX5 91 yX5_isPart, Cond.static yX5_isPart, Cond.code yX5_isPart cX5_isPart 2 (some .boolean), Cond.methodLink RX5 95 yX2_countKinds, Cond.methodLink RL 39 yX6_door, Cond.instanceMethod yX6_door]
def wsL_law_r16 : List Cond := [Cond.selects RX6 yX6_door yX6_door, Cond.code yX6_door cX6_door 4 (some .int), Cond.methodLink RX6 101 yX6_isTheDoor, Cond.instanceMethod yX6_isTheDoor, Cond.selects RX6 yX6_isTheDoor yX6_isTheDoor, Cond.code yX6_isTheDoor cX6_isTheDoor 2 (some .boolean), Cond.methodLink RX6 104 yX6_doorCell, Cond.static yX6_doorCell, Cond.code yX6_doorCell cX6_doorCell 4 (some .int), Cond.methodLink RX6 108 yX6_openOf, Cond.static yX6_openOf, Cond.code yX6_openOf cX6_openOf 3 (some .int), Cond.methodLink RL 40 yX5_turn, Cond.instanceMethod yX5_turn, Cond.selects RX5 yX5_turn yX5_turn, Cond.code yX5_turn cX5_turn 1 (some .int), Cond.methodLink RX5 102 yX5_turnRoom, Cond.instanceMethod yX5_turnRoom, Cond.selects RX5 yX5_turnRoom yX5_turnRoom, Cond.code yX5_turnRoom cX5_turnRoom 1 none, Cond.methodLink RX5 126 yX2_becomeTurned, Cond.instanceMethod yX2_becomeTurned, Cond.selects RX2 yX2_becomeTurned yX2_becomeTurned, Cond.code yX2_becomeTurned cX2_becomeTurned 5 none]
def wsL_law_r17 : List Cond := [Cond.methodLink RX2 49 yX2_turnedKind, Cond.static yX2_turnedKind, Cond.code yX2_turnedKind cX2_turnedKind 1 (some .int), Cond.methodLink RX2 52 yX2_tell, Cond.methodLink RX5 105 yX1_rememberTurn, Cond.instanceMethod yX1_rememberTurn, Cond.selects RX1 yX1_rememberTurn yX1_rememberTurn, Cond.code yX1_rememberTurn cX1_rememberTurn 1 none, Cond.methodLink RL 43 yX6_turn, Cond.instanceMethod yX6_turn, Cond.selects RX6 yX6_turn yX6_turn, Cond.code yX6_turn cX6_turn 7 (some .int), Cond.methodLink RL 44 yX5_undo, Cond.instanceMethod yX5_undo, Cond.selects RX5 yX5_undo yX5_undo, Cond.code yX5_undo cX5_undo 2 (some .int), Cond.methodLink RX5 111 yX1_takeLatest, Cond.instanceMethod yX1_takeLatest, Cond.selects RX1 yX1_takeLatest yX1_takeLatest, Cond.code yX1_takeLatest cX1_takeLatest 1 (some .int), Cond.methodLink RX5 114 yX1_cellOf, Cond.static yX1_cellOf, Cond.code yX1_cellOf cX1_cellOf 1 (some .int), Cond.methodLink RX5 117 yX1_kindOf]
def wsL_law_r18 : List Cond := [Cond.static yX1_kindOf, Cond.code yX1_kindOf cX1_kindOf 1 (some .int), Cond.methodLink RL 47 yX6_undo, Cond.instanceMethod yX6_undo, Cond.selects RX6 yX6_undo yX6_undo, Cond.code yX6_undo cX6_undo 1 (some .int), Cond.methodLink RL 48 yX5_cell, Cond.instanceMethod yX5_cell, Cond.selects RX5 yX5_cell yX5_cell, Cond.code yX5_cell cX5_cell 2 (some .int), Cond.methodLink RL 51 yX6_cell, Cond.instanceMethod yX6_cell, Cond.selects RX6 yX6_cell yX6_cell, Cond.code yX6_cell cX6_cell 2 (some .int), Cond.methodLink RL 52 yX5_doorAt, Cond.instanceMethod yX5_doorAt, Cond.selects RX5 yX5_doorAt yX5_doorAt, Cond.code yX5_doorAt cX5_doorAt 2 (some .int), Cond.methodLink RL 55 yX6_doorAt, Cond.instanceMethod yX6_doorAt, Cond.selects RX6 yX6_doorAt yX6_doorAt, Cond.code yX6_doorAt cX6_doorAt 2 (some .int), Cond.methodLink RL 56 yX5_port, Cond.instanceMethod yX5_port]
def wsL_law_r19 : List Cond := [Cond.selects RX5 yX5_port yX5_port, Cond.code yX5_port cX5_port 3 (some .int), Cond.methodLink RX5 129 yX2_hasPort, Cond.instanceMethod yX2_hasPort, Cond.selects RX2 yX2_hasPort yX2_hasPort, Cond.code yX2_hasPort cX2_hasPort 2 (some .boolean), Cond.methodLink RX2 31 yX2_ports, Cond.instanceMethod yX2_ports, Cond.selects RX2 yX2_ports yX2_ports, Cond.code yX2_ports cX2_ports 1 (some .int), Cond.methodLink RX5 133 yX2_portCell, Cond.instanceMethod yX2_portCell, Cond.selects RX2 yX2_portCell yX2_portCell, Cond.code yX2_portCell cX2_portCell 2 (some .int), Cond.methodLink RX2 46 yX2_portDirection, Cond.instanceMethod yX2_portDirection, Cond.selects RX2 yX2_portDirection yX2_portDirection, Cond.code yX2_portDirection cX2_portDirection 2 (some .int), Cond.methodLink RX5 136 yX2_portDirection, Cond.methodLink RL 59 yX6_port, Cond.instanceMethod yX6_port, Cond.selects RX6 yX6_port yX6_port, Cond.code yX6_port cX6_port 4 (some .int), Cond.methodLink RX6 114 yX6_isPort]
def wsL_law_r20 : List Cond := [Cond.instanceMethod yX6_isPort, Cond.selects RX6 yX6_isPort yX6_isPort, Cond.code yX6_isPort cX6_isPort 2 (some .boolean), Cond.methodLink RX6 111 yX6_ports, Cond.static yX6_ports, Cond.code yX6_ports cX6_ports 1 (some .int), Cond.methodLink RX6 117 yX6_portState, Cond.static yX6_portState, Cond.code yX6_portState cX6_portState 4 (some .int), Cond.methodLink RL 60 yX5_share, Cond.instanceMethod yX5_share, Cond.selects RX5 yX5_share yX5_share, Cond.code yX5_share cX5_share 4 (some .int), Cond.methodLink RX5 139 yX5_hasPorts, Cond.instanceMethod yX5_hasPorts, Cond.selects RX5 yX5_hasPorts yX5_hasPorts, Cond.code yX5_hasPorts cX5_hasPorts 3 (some .boolean), Cond.methodLink RX5 142 yX0_shine, Cond.instanceMethod yX0_shine, Cond.selects RX0 yX0_shine yX0_shine, Cond.code yX0_shine cX0_shine 4 none, Cond.methodLink RX0 46 yX2_portCell, Cond.methodLink RX0 52 yX2_portDirection, Cond.methodLink RX0 55 yX0_endOf]
def wsL_law_r21 : List Cond := [Cond.static yX0_endOf, Cond.code yX0_endOf cX0_endOf 8 (some .int), Cond.methodLink RX0 85 yX2_kindAt, Cond.static yX5_isHalf, Cond.code yX5_isHalf cX5_isHalf 1 (some .boolean), Cond.static yX5_turnedBy, Cond.code yX5_turnedBy cX5_turnedBy 3 (some .int), Cond.static yX5_letsOn, Cond.code yX5_letsOn cX5_letsOn 1 (some .boolean), Cond.methodLink RX5 209 yX5_isHalf, Cond.static yX5_turnsBeam, Cond.code yX5_turnsBeam cX5_turnsBeam 1 (some .boolean), Cond.methodLink RX0 92 yX2_beyond, Cond.instanceMethod yX2_beyond, Cond.selects RX2 yX2_beyond yX2_beyond, Cond.code yX2_beyond cX2_beyond 5 (some .int), Cond.methodLink RX0 59 yX0_findSplits, Cond.instanceMethod yX0_findSplits, Cond.selects RX0 yX0_findSplits yX0_findSplits, Cond.code yX0_findSplits cX0_findSplits 6 none, Cond.methodLink RX0 73 yJ7_fill_53178, Cond.static yJ7_fill_53178, Cond.initialized RJ7, Cond.code yJ7_fill_53178 cJ7_fill_53178 4 none]
def wsL_law_r22 : List Cond := [Cond.methodLink RX0 79 yX0_noteSplit, Cond.instanceMethod yX0_noteSplit, Cond.selects RX0 yX0_noteSplit yX0_noteSplit, Cond.code yX0_noteSplit cX0_noteSplit 2 none, Cond.methodLink RX0 82 yX0_endBeyond, Cond.static yX0_endBeyond, Cond.code yX0_endBeyond cX0_endBeyond 4 (some .int), Cond.methodLink RX0 63 yX0_setRows, Cond.instanceMethod yX0_setRows, Cond.selects RX0 yX0_setRows yX0_setRows, Cond.code yX0_setRows cX0_setRows 4 none, Cond.constantLong RX0 108 (2), Cond.methodLink RX0 105 yJ7_fill_d0a16, Cond.static yJ7_fill_d0a16, Cond.code yJ7_fill_d0a16 cJ7_fill_d0a16 5 none, Cond.methodLink RX0 66 yX0_solveRows, Cond.instanceMethod yX0_solveRows, Cond.selects RX0 yX0_solveRows yX0_solveRows, Cond.code yX0_solveRows cX0_solveRows 5 none, Cond.methodLink RX0 110 yX0_clearColumn, Cond.instanceMethod yX0_clearColumn, Cond.selects RX0 yX0_clearColumn yX0_clearColumn, Cond.code yX0_clearColumn cX0_clearColumn 7 none, Cond.methodLink RX0 69 yX0_addParts]
def wsL_law_r23 : List Cond := [Cond.instanceMethod yX0_addParts, Cond.selects RX0 yX0_addParts yX0_addParts, Cond.code yX0_addParts cX0_addParts 3 none, Cond.methodLink RX0 114 yX0_addPart, Cond.instanceMethod yX0_addPart, Cond.selects RX0 yX0_addPart yX0_addPart, Cond.code yX0_addPart cX0_addPart 4 none, Cond.methodLink RX5 146 yX0_outAt, Cond.instanceMethod yX0_outAt, Cond.selects RX0 yX0_outAt yX0_outAt, Cond.code yX0_outAt cX0_outAt 2 (some .long), Cond.methodLink RX5 154 yX5_lowest, Cond.static yX5_lowest, Cond.code yX5_lowest cX5_lowest 7 (some .int), Cond.methodLink RX5 204 yX5_commonDivisor, Cond.static yX5_commonDivisor, Cond.code yX5_commonDivisor cX5_commonDivisor 11 (some .long), Cond.methodLink RL 64 yX6_share, Cond.instanceMethod yX6_share, Cond.selects RX6 yX6_share yX6_share, Cond.code yX6_share cX6_share 4 (some .int), Cond.fieldLink RX6 146 "MirrorSharesModel" "above" "J", Cond.fieldLink RX6 150 "MirrorSharesModel" "below" "J", Cond.methodLink RX6 170 yX6_shares]
def wsL_law_r24 : List Cond := [Cond.instanceMethod yX6_shares, Cond.selects RX6 yX6_shares yX6_shares, Cond.code yX6_shares cX6_shares 5 none, Cond.methodLink RX6 137 yX6_follows, Cond.static yX6_follows, Cond.code yX6_follows cX6_follows 4 (some .int), Cond.methodLink RX6 128 yX6_waysOf, Cond.static yX6_waysOf, Cond.code yX6_waysOf cX6_waysOf 3 (some .int), Cond.methodLink RX6 131 yX6_goes, Cond.static yX6_goes, Cond.code yX6_goes cX6_goes 7 (some .int), Cond.methodLink RX6 120 yX6_turned, Cond.static yX6_turned, Cond.code yX6_turned cX6_turned 2 (some .int), Cond.methodLink RX6 124 yX6_onward, Cond.static yX6_onward, Cond.code yX6_onward cX6_onward 7 (some .int), Cond.methodLink RX6 140 yX6_isAsked, Cond.static yX6_isAsked, Cond.code yX6_isAsked cX6_isAsked 2 (some .boolean), Cond.methodLink RX6 153 yX6_gathers, Cond.instanceMethod yX6_gathers, Cond.selects RX6 yX6_gathers yX6_gathers]
def wsL_law_r25 : List Cond := [Cond.code yX6_gathers cX6_gathers 8 none, Cond.fieldLink RX6 134 "MirrorSharesModel" "nodeMany" "I", Cond.methodLink RX6 157 yX6_findsMay, Cond.instanceMethod yX6_findsMay, Cond.selects RX6 yX6_findsMay yX6_findsMay, Cond.code yX6_findsMay cX6_findsMay 6 none, Cond.methodLink RX6 161 yX6_laysRows, Cond.instanceMethod yX6_laysRows, Cond.selects RX6 yX6_laysRows yX6_laysRows, Cond.code yX6_laysRows cX6_laysRows 7 (some .int), Cond.constantLong RX6 144 (2), Cond.methodLink RX6 164 yX6_solves, Cond.instanceMethod yX6_solves, Cond.selects RX6 yX6_solves yX6_solves, Cond.code yX6_solves cX6_solves 11 none, Cond.methodLink RX6 167 yX6_lowers, Cond.instanceMethod yX6_lowers, Cond.selects RX6 yX6_lowers yX6_lowers, Cond.code yX6_lowers cX6_lowers 7 none, Cond.methodLink RL 65 yX5_lost, Cond.instanceMethod yX5_lost, Cond.selects RX5 yX5_lost yX5_lost, Cond.code yX5_lost cX5_lost 3 (some .int), Cond.methodLink RX5 158 yX0_swallowed]
def wsL_law_r26 : List Cond := [Cond.instanceMethod yX0_swallowed, Cond.selects RX0 yX0_swallowed yX0_swallowed, Cond.code yX0_swallowed cX0_swallowed 1 (some .long), Cond.methodLink RX5 162 yX0_caught, Cond.instanceMethod yX0_caught, Cond.selects RX0 yX0_caught yX0_caught, Cond.code yX0_caught cX0_caught 4 (some .long), Cond.methodLink RX0 38 yX0_swallowed, Cond.methodLink RX0 42 yX0_outAt, Cond.methodLink RL 68 yX6_lost, Cond.instanceMethod yX6_lost, Cond.selects RX6 yX6_lost yX6_lost, Cond.code yX6_lost cX6_lost 3 (some .int), Cond.methodLink RX6 174 yX6_lostOf, Cond.instanceMethod yX6_lostOf, Cond.selects RX6 yX6_lostOf yX6_lostOf, Cond.code yX6_lostOf cX6_lostOf 3 (some .long), Cond.methodLink RL 69 yX5_bits, Cond.instanceMethod yX5_bits, Cond.selects RX5 yX5_bits yX5_bits, Cond.code yX5_bits cX5_bits 5 (some .int), Cond.methodLink RX5 165 yX5_floatBits, Cond.static yX5_floatBits, Cond.code yX5_floatBits cX5_floatBits 6 (some .int)]
def wsL_law_r27 : List Cond := [Cond.constantFloat RX5 208 (1258291200), Cond.methodLink RL 72 yX6_bits, Cond.instanceMethod yX6_bits, Cond.selects RX6 yX6_bits yX6_bits, Cond.code yX6_bits cX6_bits 3 (some .int), Cond.methodLink RX6 178 yJxf58ca_floatToIntBits_5c35a, Cond.static yJxf58ca_floatToIntBits_5c35a, Cond.initialized RJxf58ca, Cond.code yJxf58ca_floatToIntBits_5c35a cJxf58ca_floatToIntBits_5c35a 1 (some .int), Cond.methodLink RJxf58ca 74 ⟨"java/lang/Float", "floatToRawIntBits", "(F)I"⟩, Cond.native ⟨"java/lang/Float", "floatToRawIntBits", "(F)I"⟩, Cond.static ⟨"java/lang/Float", "floatToRawIntBits", "(F)I"⟩, Cond.initialized "java/lang/Float", Cond.constant RJxf58ca 77 (2143289344), Cond.methodLink RJxf58ca 59 yJxf58ca_isNaN_12338, Cond.static yJxf58ca_isNaN_12338, Cond.code yJxf58ca_isNaN_12338 cJxf58ca_isNaN_12338 1 (some .boolean), Cond.methodLink RL 73 yX5_lit, Cond.instanceMethod yX5_lit, Cond.selects RX5 yX5_lit yX5_lit, Cond.code yX5_lit cX5_lit 2 (some .int), Cond.methodLink RX5 168 yX4_goFrom, Cond.instanceMethod yX4_goFrom, Cond.selects RX4 yX4_goFrom yX4_goFrom]
def wsL_law_r28 : List Cond := [Cond.code yX4_goFrom cX4_goFrom 4 none, Cond.methodLink RX4 28 yJ7_fill_53178, Cond.methodLink RX4 34 yX2_portCell, Cond.methodLink RX4 40 yX2_portDirection, Cond.methodLink RX4 43 yX4_enter, Cond.instanceMethod yX4_enter, Cond.selects RX4 yX4_enter yX4_enter, Cond.code yX4_enter cX4_enter 5 none, Cond.methodLink RX4 47 yX4_spread, Cond.instanceMethod yX4_spread, Cond.selects RX4 yX4_spread yX4_spread, Cond.code yX4_spread cX4_spread 7 none, Cond.methodLink RX4 51 yX2_kindAt, Cond.methodLink RX4 58 yX4_leave, Cond.instanceMethod yX4_leave, Cond.selects RX4 yX4_leave yX4_leave, Cond.code yX4_leave cX4_leave 6 none, Cond.methodLink RX4 69 yX2_beyond, Cond.methodLink RX4 72 yX4_reach, Cond.instanceMethod yX4_reach, Cond.selects RX4 yX4_reach yX4_reach, Cond.code yX4_reach cX4_reach 3 none, Cond.methodLink RL 76 yX6_lit, Cond.instanceMethod yX6_lit]
def wsL_law_r29 : List Cond := [Cond.selects RX6 yX6_lit yX6_lit, Cond.code yX6_lit cX6_lit 4 (some .int), Cond.fieldLink RX6 184 "MirrorSharesModel" "met" "I", Cond.methodLink RX6 187 yX6_spreads, Cond.instanceMethod yX6_spreads, Cond.selects RX6 yX6_spreads yX6_spreads, Cond.code yX6_spreads cX6_spreads 6 none, Cond.methodLink RL 77 yX5_far, Cond.instanceMethod yX5_far, Cond.selects RX5 yX5_far yX5_far, Cond.code yX5_far cX5_far 3 (some .int), Cond.methodLink RX5 174 yX4_fewestTo, Cond.instanceMethod yX4_fewestTo, Cond.selects RX4 yX4_fewestTo yX4_fewestTo, Cond.code yX4_fewestTo cX4_fewestTo 2 (some .int), Cond.methodLink RL 80 yX6_far, Cond.instanceMethod yX6_far, Cond.selects RX6 yX6_far yX6_far, Cond.code yX6_far cX6_far 5 (some .int), Cond.methodLink RL 81 yX5_alike, Cond.instanceMethod yX5_alike, Cond.selects RX5 yX5_alike yX5_alike, Cond.code yX5_alike cX5_alike 10 (some .int), Cond.methodLink RX5 177 yX5_compareFractions]
def wsL_law_r30 : List Cond := [Cond.static yX5_compareFractions, Cond.code yX5_compareFractions cX5_compareFractions 8 (some .int), Cond.methodLink RX5 198 yJ13_compare_74951, Cond.static yJ13_compare_74951, Cond.initialized RJ13, Cond.code yJ13_compare_74951 cJ13_compare_74951 4 (some .int), Cond.methodLink RL 84 yX6_alike, Cond.instanceMethod yX6_alike, Cond.selects RX6 yX6_alike yX6_alike, Cond.code yX6_alike cX6_alike 5 (some .int), Cond.methodLink RL 85 yX5_best, Cond.instanceMethod yX5_best, Cond.selects RX5 yX5_best yX5_best, Cond.code yX5_best cX5_best 12 (some .int), Cond.constantLong RX5 181 (-1), Cond.methodLink RX5 183 yX5_openOnly, Cond.instanceMethod yX5_openOnly, Cond.selects RX5 yX5_openOnly yX5_openOnly, Cond.code yX5_openOnly cX5_openOnly 3 none, Cond.methodLink RX5 187 yJ6_bitCount_0f7a4, Cond.static yJ6_bitCount_0f7a4, Cond.initialized RJ6, Cond.code yJ6_bitCount_0f7a4 cJ6_bitCount_0f7a4 1 (some .int), Cond.constant RJ6 265 (1431655765)]
def wsL_law_r31 : List Cond := [Cond.constant RJ6 266 (858993459), Cond.constant RJ6 267 (252645135), Cond.methodLink RL 88 yX6_best, Cond.instanceMethod yX6_best, Cond.selects RX6 yX6_best yX6_best, Cond.code yX6_best cX6_best 13 (some .int), Cond.constantLong RX6 190 (-1), Cond.methodLink RX6 192 yX6_ones, Cond.static yX6_ones, Cond.code yX6_ones cX6_ones 3 (some .int), Cond.methodLink RL 89 yX5_found, Cond.instanceMethod yX5_found, Cond.selects RX5 yX5_found yX5_found, Cond.code yX5_found cX5_found 9 (some .int), Cond.methodLink RL 93 yX6_found, Cond.instanceMethod yX6_found, Cond.selects RX6 yX6_found yX6_found, Cond.code yX6_found cX6_found 10 (some .int), Cond.methodLink RL 94 yX5_count, Cond.instanceMethod yX5_count, Cond.selects RX5 yX5_count yX5_count, Cond.code yX5_count cX5_count 2 (some .int), Cond.methodLink RX5 192 yX2_ports, Cond.methodLink RL 97 yX6_count]
def wsL_law_r32 : List Cond := [Cond.instanceMethod yX6_count, Cond.selects RX6 yX6_count yX6_count, Cond.code yX6_count cX6_count 5 (some .int)]
def wsL_law : List Cond := (wsL_law_r1 ++ (wsL_law_r2 ++ (wsL_law_r3 ++ (wsL_law_r4 ++ (wsL_law_r5 ++ (wsL_law_r6 ++ (wsL_law_r7 ++ (wsL_law_r8 ++ (wsL_law_r9 ++ (wsL_law_r10 ++ (wsL_law_r11 ++ (wsL_law_r12 ++ (wsL_law_r13 ++ (wsL_law_r14 ++ (wsL_law_r15 ++ (wsL_law_r16 ++ (wsL_law_r17 ++ (wsL_law_r18 ++ (wsL_law_r19 ++ (wsL_law_r20 ++ (wsL_law_r21 ++ (wsL_law_r22 ++ (wsL_law_r23 ++ (wsL_law_r24 ++ (wsL_law_r25 ++ (wsL_law_r26 ++ (wsL_law_r27 ++ (wsL_law_r28 ++ (wsL_law_r29 ++ (wsL_law_r30 ++ (wsL_law_r31 ++ wsL_law_r32))))))))))))))))))))))))))))))) ++ wsX50 ++ wsX60 ++ wsX30 ++ wsX20 ++ wsX10 ++ wsX40 ++ wsX00 ++ ([] : List Cond)
theorem inJx145de : ∀ w ∈ wsJx145de0, w ∈ lw_tbl := by decide +kernel
theorem inJx9f9b0 : ∀ w ∈ wsJx9f9b00, w ∈ lw_tbl := by decide +kernel
theorem inJ11 : ∀ w ∈ wsJ110, w ∈ lw_tbl := by decide +kernel
theorem inJxb160c : ∀ w ∈ wsJxb160c0, w ∈ lw_tbl := by decide +kernel
theorem inJxf58ca : ∀ w ∈ wsJxf58ca0, w ∈ lw_tbl := by decide +kernel
theorem inJ6 : ∀ w ∈ wsJ60, w ∈ lw_tbl := by decide +kernel
theorem inJ13 : ∀ w ∈ wsJ130, w ∈ lw_tbl := by decide +kernel
theorem inJ9 : ∀ w ∈ wsJ90, w ∈ lw_tbl := by decide +kernel
theorem inJxd2413 : ∀ w ∈ wsJxd24130, w ∈ lw_tbl := by decide +kernel
theorem inJ0 : ∀ w ∈ wsJ00, w ∈ lw_tbl := by decide +kernel
theorem inJ1 : ∀ w ∈ wsJ10, w ∈ lw_tbl := by decide +kernel
theorem inJ2 : ∀ w ∈ wsJ20, w ∈ lw_tbl := by decide +kernel
theorem inJ10 : ∀ w ∈ wsJ100, w ∈ lw_tbl := by decide +kernel
theorem inJxfd54e : ∀ w ∈ wsJxfd54e0, w ∈ lw_tbl := by decide +kernel
theorem inJx3cf43 : ∀ w ∈ wsJx3cf430, w ∈ lw_tbl := by decide +kernel
theorem inJ7 : ∀ w ∈ wsJ70, w ∈ lw_tbl := by decide +kernel
theorem inJ3 : ∀ w ∈ wsJ30, w ∈ lw_tbl := by decide +kernel
theorem dX0_init_0 : decode cX0_init 0 = .ok (.aload_n 0, 1) := by decide +kernel
theorem dX0_init_1 : decode cX0_init 1 = .ok (.invokespecial 5, 3) := by decide +kernel
theorem dX0_init_4 : decode cX0_init 4 = .ok (.aload_n 0, 1) := by decide +kernel
theorem dX0_init_5 : decode cX0_init 5 = .ok (.bipush 10, 2) := by decide +kernel
theorem dX0_init_7 : decode cX0_init 7 = .ok (.newarray .int, 2) := by decide +kernel
theorem dX0_init_9 : decode cX0_init 9 = .ok (.putfield 11, 3) := by decide +kernel
theorem dX0_init_12 : decode cX0_init 12 = .ok (.aload_n 0, 1) := by decide +kernel
theorem dX0_init_13 : decode cX0_init 13 = .ok (.bipush 60, 2) := by decide +kernel
theorem dX0_init_15 : decode cX0_init 15 = .ok (.newarray .int, 2) := by decide +kernel
theorem dX0_init_17 : decode cX0_init 17 = .ok (.putfield 15, 3) := by decide +kernel
theorem dX0_init_20 : decode cX0_init 20 = .ok (.aload_n 0, 1) := by decide +kernel
theorem dX0_init_21 : decode cX0_init 21 = .ok (.bipush 20, 2) := by decide +kernel
theorem dX0_init_23 : decode cX0_init 23 = .ok (.newarray .int, 2) := by decide +kernel
theorem dX0_init_25 : decode cX0_init 25 = .ok (.putfield 18, 3) := by decide +kernel
theorem dX0_init_28 : decode cX0_init 28 = .ok (.aload_n 0, 1) := by decide +kernel
theorem dX0_init_29 : decode cX0_init 29 = .ok (.bipush 10, 2) := by decide +kernel
theorem dX0_init_31 : decode cX0_init 31 = .ok (.bipush 11, 2) := by decide +kernel
theorem dX0_init_33 : decode cX0_init 33 = .ok (.multianewarray 21 2, 4) := by decide +kernel
theorem dX0_init_37 : decode cX0_init 37 = .ok (.putfield 23, 3) := by decide +kernel
theorem dX0_init_40 : decode cX0_init 40 = .ok (.aload_n 0, 1) := by decide +kernel
theorem dX0_init_41 : decode cX0_init 41 = .ok (.bipush 60, 2) := by decide +kernel
theorem dX0_init_43 : decode cX0_init 43 = .ok (.newarray .long, 2) := by decide +kernel
theorem dX0_init_45 : decode cX0_init 45 = .ok (.putfield 26, 3) := by decide +kernel
theorem dX0_init_48 : decode cX0_init 48 = .ok (.aload_n 0, 1) := by decide +kernel
theorem dX0_init_49 : decode cX0_init 49 = .ok (.iconst 0, 1) := by decide +kernel
theorem dX0_init_50 : decode cX0_init 50 = .ok (.putfield 30, 3) := by decide +kernel
theorem dX0_init_53 : decode cX0_init 53 = .ok (.aload_n 0, 1) := by decide +kernel
theorem dX0_init_54 : decode cX0_init 54 = .ok (.lconst 1, 1) := by decide +kernel
theorem dX0_init_55 : decode cX0_init 55 = .ok (.putfield 34, 3) := by decide +kernel
theorem dX0_init_58 : decode cX0_init 58 = .ok (.return_, 1) := by decide +kernel
theorem dX0_outAt_0 : decode cX0_outAt 0 = .ok (.iload_n 1, 1) := by decide +kernel
theorem dX0_outAt_1 : decode cX0_outAt 1 = .ok (.ifCond .lt 21, 3) := by decide +kernel
theorem dX0_outAt_4 : decode cX0_outAt 4 = .ok (.iload_n 1, 1) := by decide +kernel
theorem dX0_outAt_5 : decode cX0_outAt 5 = .ok (.bipush 18, 2) := by decide +kernel
theorem dX0_outAt_7 : decode cX0_outAt 7 = .ok (.if_icmp .ge 15, 3) := by decide +kernel
theorem dX0_outAt_10 : decode cX0_outAt 10 = .ok (.aload_n 0, 1) := by decide +kernel
theorem dX0_outAt_11 : decode cX0_outAt 11 = .ok (.getfield 26, 3) := by decide +kernel
theorem dX0_outAt_14 : decode cX0_outAt 14 = .ok (.bipush 40, 2) := by decide +kernel
theorem dX0_outAt_16 : decode cX0_outAt 16 = .ok (.iload_n 1, 1) := by decide +kernel
theorem dX0_outAt_17 : decode cX0_outAt 17 = .ok (.iadd, 1) := by decide +kernel
theorem dX0_outAt_18 : decode cX0_outAt 18 = .ok (.laload, 1) := by decide +kernel
theorem dX0_outAt_19 : decode cX0_outAt 19 = .ok (.goto 4, 3) := by decide +kernel
theorem dX0_outAt_22 : decode cX0_outAt 22 = .ok (.lconst 0, 1) := by decide +kernel
theorem dX0_outAt_23 : decode cX0_outAt 23 = .ok (.lreturn, 1) := by decide +kernel
theorem dX0_swallowed_0 : decode cX0_swallowed 0 = .ok (.aload_n 0, 1) := by decide +kernel
theorem dX0_swallowed_1 : decode cX0_swallowed 1 = .ok (.getfield 26, 3) := by decide +kernel
theorem dX0_swallowed_4 : decode cX0_swallowed 4 = .ok (.bipush 58, 2) := by decide +kernel
theorem dX0_swallowed_6 : decode cX0_swallowed 6 = .ok (.laload, 1) := by decide +kernel
theorem dX0_swallowed_7 : decode cX0_swallowed 7 = .ok (.lreturn, 1) := by decide +kernel
set_option maxRecDepth 20000 in
theorem ggX0_caught_X0_swallowed : GoodIn wsX0_caught wsX0_swallowed := goodIn_r _ [6, 7, 12, 13, 14, 15, 16, 17, 18] (by decide +kernel) (by decide +kernel)
set_option maxRecDepth 20000 in
theorem gX0_caught_X0_swallowed : GoodIn wsX0_caught (wsV RX0 38 RX0 yX0_swallowed wsX0_swallowed) := goodIn_app (goodIn_of _ (by decide +kernel)) ggX0_caught_X0_swallowed
set_option maxRecDepth 20000 in
theorem ggX0_caught_X0_outAt : GoodIn wsX0_caught wsX0_outAt := goodIn_r _ [11, 7, 12, 13, 14, 15, 16, 17, 18] (by decide +kernel) (by decide +kernel)
set_option maxRecDepth 20000 in
theorem gX0_caught_X0_outAt : GoodIn wsX0_caught (wsV RX0 42 RX0 yX0_outAt wsX0_outAt) := goodIn_app (goodIn_of _ (by decide +kernel)) ggX0_caught_X0_outAt
theorem dX0_caught_0 : decode cX0_caught 0 = .ok (.aload_n 0, 1) := by decide +kernel
theorem dX0_caught_1 : decode cX0_caught 1 = .ok (.getfield 34, 3) := by decide +kernel
theorem dX0_caught_4 : decode cX0_caught 4 = .ok (.aload_n 0, 1) := by decide +kernel
theorem dX0_caught_5 : decode cX0_caught 5 = .ok (.invokevirtual 38, 3) := by decide +kernel
theorem dX0_caught_8 : decode cX0_caught 8 = .ok (.lsub, 1) := by decide +kernel
theorem dX0_caught_9 : decode cX0_caught 9 = .ok (.lstore_n 1, 1) := by decide +kernel
theorem dX0_caught_10 : decode cX0_caught 10 = .ok (.iconst 0, 1) := by decide +kernel
theorem dX0_caught_11 : decode cX0_caught 11 = .ok (.istore_n 3, 1) := by decide +kernel
theorem dX0_caught_12 : decode cX0_caught 12 = .ok (.iload_n 3, 1) := by decide +kernel
theorem dX0_caught_13 : decode cX0_caught 13 = .ok (.bipush 18, 2) := by decide +kernel
theorem dX0_caught_15 : decode cX0_caught 15 = .ok (.if_icmp .ge 17, 3) := by decide +kernel
theorem dX0_caught_18 : decode cX0_caught 18 = .ok (.lload_n 1, 1) := by decide +kernel
theorem dX0_caught_19 : decode cX0_caught 19 = .ok (.aload_n 0, 1) := by decide +kernel
theorem dX0_caught_20 : decode cX0_caught 20 = .ok (.iload_n 3, 1) := by decide +kernel
theorem dX0_caught_21 : decode cX0_caught 21 = .ok (.invokevirtual 42, 3) := by decide +kernel
theorem dX0_caught_24 : decode cX0_caught 24 = .ok (.lsub, 1) := by decide +kernel
theorem dX0_caught_25 : decode cX0_caught 25 = .ok (.lstore_n 1, 1) := by decide +kernel
theorem dX0_caught_26 : decode cX0_caught 26 = .ok (.iinc 3 1, 3) := by decide +kernel
theorem dX0_caught_29 : decode cX0_caught 29 = .ok (.goto (-17), 3) := by decide +kernel
theorem dX0_caught_32 : decode cX0_caught 32 = .ok (.lload_n 1, 1) := by decide +kernel
theorem dX0_caught_33 : decode cX0_caught 33 = .ok (.lreturn, 1) := by decide +kernel
set_option maxRecDepth 20000 in
theorem ggX0_shine_X2_portCell : GoodIn wsX0_shine wsX2_portCell := goodIn_r _ [5, 6, 7, 8, 9, 10, 4, 11, 86, 87, 88] (by decide +kernel) (by decide +kernel)
set_option maxRecDepth 20000 in
theorem gX0_shine_X2_portCell : GoodIn wsX0_shine (wsV RX0 46 RX2 yX2_portCell wsX2_portCell) := goodIn_app (goodIn_of _ (by decide +kernel)) ggX0_shine_X2_portCell
set_option maxRecDepth 20000 in
theorem ggX0_shine_X2_portDirection : GoodIn wsX0_shine wsX2_portDirection := goodIn_r _ [11, 6, 7, 86, 87, 88] (by decide +kernel) (by decide +kernel)
set_option maxRecDepth 20000 in
theorem gX0_shine_X2_portDirection : GoodIn wsX0_shine (wsV RX0 52 RX2 yX2_portDirection wsX2_portDirection) := goodIn_app (goodIn_of _ (by decide +kernel)) ggX0_shine_X2_portDirection
set_option maxRecDepth 20000 in
theorem ggX0_shine_X0_endOf : GoodIn wsX0_shine wsX0_endOf := goodIn_r _ [16, 17, 18, 19, 4, 20, 21, 22, 23, 24, 25, 6, 7, 26, 27, 28, 29, 30, 31, 32, 33, 34, 35, 36, 37, 38, 39, 86, 87, 88] (by decide +kernel) (by decide +kernel)
set_option maxRecDepth 20000 in
theorem gX0_shine_X0_endOf : GoodIn wsX0_shine (va_wsS RX0 55 yX0_endOf wsX0_endOf) := goodIn_app (goodIn_of _ (by decide +kernel)) ggX0_shine_X0_endOf
set_option maxRecDepth 20000 in
theorem ggX0_shine_X0_findSplits : GoodIn wsX0_shine wsX0_findSplits := goodIn_r _ [43, 44, 45, 46, 47, 48, 49, 50, 51, 52, 53, 54, 15, 55, 56, 57, 58, 36, 37, 38, 4, 39, 6, 7, 13, 14, 16, 17, 18, 19, 20, 21, 22, 23, 24, 25, 26, 27, 28, 29, 30, 31, 32, 33, 34, 35, 89, 90, 91, 92, 93, 94, 95, 86, 87, 88] (by decide +kernel) (by decide +kernel)
set_option maxRecDepth 20000 in
theorem gX0_shine_X0_findSplits : GoodIn wsX0_shine (wsV RX0 59 RX0 yX0_findSplits wsX0_findSplits) := goodIn_app (goodIn_of _ (by decide +kernel)) ggX0_shine_X0_findSplits
set_option maxRecDepth 20000 in
theorem ggX0_shine_X0_setRows : GoodIn wsX0_shine wsX0_setRows := goodIn_r _ [62, 45, 63, 64, 47, 44, 65, 66, 50, 67, 89, 90, 91, 92, 93, 94, 95] (by decide +kernel) (by decide +kernel)
set_option maxRecDepth 20000 in
theorem gX0_shine_X0_setRows : GoodIn wsX0_shine (wsV RX0 63 RX0 yX0_setRows wsX0_setRows) := goodIn_app (goodIn_of _ (by decide +kernel)) ggX0_shine_X0_setRows
set_option maxRecDepth 20000 in
theorem ggX0_shine_X0_solveRows : GoodIn wsX0_shine wsX0_solveRows := goodIn_r _ [71, 72, 45, 63, 73, 74, 75, 15, 76, 89, 90, 91, 92, 93, 94, 95] (by decide +kernel) (by decide +kernel)
set_option maxRecDepth 20000 in
theorem gX0_shine_X0_solveRows : GoodIn wsX0_shine (wsV RX0 66 RX0 yX0_solveRows wsX0_solveRows) := goodIn_app (goodIn_of _ (by decide +kernel)) ggX0_shine_X0_solveRows
set_option maxRecDepth 20000 in
theorem ggX0_shine_X0_addParts : GoodIn wsX0_shine wsX0_addParts := goodIn_r _ [80, 81, 72, 45, 47, 63, 65, 66, 50, 67, 82, 83, 84, 15, 85, 89, 90, 91, 92, 93, 94, 95] (by decide +kernel) (by decide +kernel)
set_option maxRecDepth 20000 in
theorem gX0_shine_X0_addParts : GoodIn wsX0_shine (wsV RX0 69 RX0 yX0_addParts wsX0_addParts) := goodIn_app (goodIn_of _ (by decide +kernel)) ggX0_shine_X0_addParts
theorem dX0_shine_0 : decode cX0_shine 0 = .ok (.aload_n 1, 1) := by decide +kernel
theorem dX0_shine_1 : decode cX0_shine 1 = .ok (.aload_n 1, 1) := by decide +kernel
theorem dX0_shine_2 : decode cX0_shine 2 = .ok (.iload_n 2, 1) := by decide +kernel
theorem dX0_shine_3 : decode cX0_shine 3 = .ok (.invokevirtual 46, 3) := by decide +kernel
theorem dX0_shine_6 : decode cX0_shine 6 = .ok (.aload_n 1, 1) := by decide +kernel
theorem dX0_shine_7 : decode cX0_shine 7 = .ok (.iload_n 2, 1) := by decide +kernel
theorem dX0_shine_8 : decode cX0_shine 8 = .ok (.invokevirtual 52, 3) := by decide +kernel
theorem dX0_shine_11 : decode cX0_shine 11 = .ok (.invokestatic 55, 3) := by decide +kernel
theorem dX0_shine_14 : decode cX0_shine 14 = .ok (.istore_n 3, 1) := by decide +kernel
theorem dX0_shine_15 : decode cX0_shine 15 = .ok (.aload_n 0, 1) := by decide +kernel
theorem dX0_shine_16 : decode cX0_shine 16 = .ok (.aload_n 1, 1) := by decide +kernel
theorem dX0_shine_17 : decode cX0_shine 17 = .ok (.iload_n 3, 1) := by decide +kernel
theorem dX0_shine_18 : decode cX0_shine 18 = .ok (.invokevirtual 59, 3) := by decide +kernel
theorem dX0_shine_21 : decode cX0_shine 21 = .ok (.aload_n 0, 1) := by decide +kernel
theorem dX0_shine_22 : decode cX0_shine 22 = .ok (.invokevirtual 63, 3) := by decide +kernel
theorem dX0_shine_25 : decode cX0_shine 25 = .ok (.aload_n 0, 1) := by decide +kernel
theorem dX0_shine_26 : decode cX0_shine 26 = .ok (.invokevirtual 66, 3) := by decide +kernel
theorem dX0_shine_29 : decode cX0_shine 29 = .ok (.aload_n 0, 1) := by decide +kernel
theorem dX0_shine_30 : decode cX0_shine 30 = .ok (.iload_n 3, 1) := by decide +kernel
theorem dX0_shine_31 : decode cX0_shine 31 = .ok (.invokevirtual 69, 3) := by decide +kernel
theorem dX0_shine_34 : decode cX0_shine 34 = .ok (.return_, 1) := by decide +kernel
set_option maxRecDepth 20000 in
theorem ggX0_findSplits_J7_fill_53178 : GoodIn wsX0_findSplits wsJ7_fill_53178 := goodIn_r _ [8] (by decide +kernel) (by decide +kernel)
set_option maxRecDepth 20000 in
theorem gX0_findSplits_J7_fill_53178 : GoodIn wsX0_findSplits (va_wsS RX0 73 yJ7_fill_53178 wsJ7_fill_53178) := goodIn_app (goodIn_of _ (by decide +kernel)) ggX0_findSplits_J7_fill_53178
set_option maxRecDepth 20000 in
theorem ggX0_findSplits_X0_noteSplit : GoodIn wsX0_findSplits wsX0_noteSplit := goodIn_r _ [13, 2, 1, 3, 46, 47, 48, 49, 50, 51, 52] (by decide +kernel) (by decide +kernel)
set_option maxRecDepth 20000 in
theorem gX0_findSplits_X0_noteSplit : GoodIn wsX0_findSplits (wsV RX0 79 RX0 yX0_noteSplit wsX0_noteSplit) := goodIn_app (goodIn_of _ (by decide +kernel)) ggX0_findSplits_X0_noteSplit
set_option maxRecDepth 20000 in
theorem ggX0_findSplits_X0_endBeyond : GoodIn wsX0_findSplits wsX0_endBeyond := goodIn_r _ [16, 17, 18, 19, 20, 21, 22, 23, 24, 25, 12, 26, 27, 28, 29, 30, 31, 32, 33, 34, 35, 36, 37, 38, 39, 40, 41, 42, 43, 44, 45, 53, 54, 55] (by decide +kernel) (by decide +kernel)
set_option maxRecDepth 20000 in
theorem gX0_findSplits_X0_endBeyond : GoodIn wsX0_findSplits (va_wsS RX0 82 yX0_endBeyond wsX0_endBeyond) := goodIn_app (goodIn_of _ (by decide +kernel)) ggX0_findSplits_X0_endBeyond
set_option maxRecDepth 20000 in
theorem ggX0_findSplits_X2_kindAt : GoodIn wsX0_findSplits wsX2_kindAt := goodIn_r _ [30, 31, 32, 33, 34, 20, 35, 22, 23, 53, 54, 55] (by decide +kernel) (by decide +kernel)
set_option maxRecDepth 20000 in
theorem gX0_findSplits_X2_kindAt : GoodIn wsX0_findSplits (wsV RX0 85 RX2 yX2_kindAt wsX2_kindAt) := goodIn_app (goodIn_of _ (by decide +kernel)) ggX0_findSplits_X2_kindAt
set_option maxRecDepth 20000 in
theorem ggX0_findSplits_X5_turnedBy : GoodIn wsX0_findSplits wsX5_turnedBy := goodIn_r _ [40] (by decide +kernel) (by decide +kernel)
set_option maxRecDepth 20000 in
theorem gX0_findSplits_X5_turnedBy_n88 : GoodIn wsX0_findSplits (wsX5_turnedBy) := ggX0_findSplits_X5_turnedBy
theorem dX0_findSplits_0 : decode cX0_findSplits 0 = .ok (.aload_n 0, 1) := by decide +kernel
theorem dX0_findSplits_1 : decode cX0_findSplits 1 = .ok (.getfield 15, 3) := by decide +kernel
theorem dX0_findSplits_4 : decode cX0_findSplits 4 = .ok (.bipush (-4), 2) := by decide +kernel
theorem dX0_findSplits_6 : decode cX0_findSplits 6 = .ok (.invokestatic 73, 3) := by decide +kernel
theorem dX0_findSplits_9 : decode cX0_findSplits 9 = .ok (.aload_n 0, 1) := by decide +kernel
theorem dX0_findSplits_10 : decode cX0_findSplits 10 = .ok (.iconst 0, 1) := by decide +kernel
theorem dX0_findSplits_11 : decode cX0_findSplits 11 = .ok (.putfield 30, 3) := by decide +kernel
theorem dX0_findSplits_14 : decode cX0_findSplits 14 = .ok (.aload_n 0, 1) := by decide +kernel
theorem dX0_findSplits_15 : decode cX0_findSplits 15 = .ok (.iload_n 2, 1) := by decide +kernel
theorem dX0_findSplits_16 : decode cX0_findSplits 16 = .ok (.invokevirtual 79, 3) := by decide +kernel
theorem dX0_findSplits_19 : decode cX0_findSplits 19 = .ok (.iconst 0, 1) := by decide +kernel
theorem dX0_findSplits_20 : decode cX0_findSplits 20 = .ok (.istore_n 3, 1) := by decide +kernel
theorem dX0_findSplits_21 : decode cX0_findSplits 21 = .ok (.iload_n 3, 1) := by decide +kernel
theorem dX0_findSplits_22 : decode cX0_findSplits 22 = .ok (.bipush 10, 2) := by decide +kernel
theorem dX0_findSplits_24 : decode cX0_findSplits 24 = .ok (.if_icmp .ge 114, 3) := by decide +kernel
theorem dX0_findSplits_27 : decode cX0_findSplits 27 = .ok (.iload_n 3, 1) := by decide +kernel
theorem dX0_findSplits_28 : decode cX0_findSplits 28 = .ok (.aload_n 0, 1) := by decide +kernel
theorem dX0_findSplits_29 : decode cX0_findSplits 29 = .ok (.getfield 30, 3) := by decide +kernel
theorem dX0_findSplits_32 : decode cX0_findSplits 32 = .ok (.if_icmp .ge 106, 3) := by decide +kernel
theorem dX0_findSplits_35 : decode cX0_findSplits 35 = .ok (.aload_n 0, 1) := by decide +kernel
theorem dX0_findSplits_36 : decode cX0_findSplits 36 = .ok (.getfield 11, 3) := by decide +kernel
theorem dX0_findSplits_39 : decode cX0_findSplits 39 = .ok (.iload_n 3, 1) := by decide +kernel
theorem dX0_findSplits_40 : decode cX0_findSplits 40 = .ok (.iaload, 1) := by decide +kernel
theorem dX0_findSplits_41 : decode cX0_findSplits 41 = .ok (.iconst 2, 1) := by decide +kernel
theorem dX0_findSplits_42 : decode cX0_findSplits 42 = .ok (.idiv, 1) := by decide +kernel
theorem dX0_findSplits_43 : decode cX0_findSplits 43 = .ok (.istore 4, 2) := by decide +kernel
theorem dX0_findSplits_45 : decode cX0_findSplits 45 = .ok (.aload_n 0, 1) := by decide +kernel
theorem dX0_findSplits_46 : decode cX0_findSplits 46 = .ok (.getfield 11, 3) := by decide +kernel
theorem dX0_findSplits_49 : decode cX0_findSplits 49 = .ok (.iload_n 3, 1) := by decide +kernel
theorem dX0_findSplits_50 : decode cX0_findSplits 50 = .ok (.iaload, 1) := by decide +kernel
theorem dX0_findSplits_51 : decode cX0_findSplits 51 = .ok (.iconst 2, 1) := by decide +kernel
theorem dX0_findSplits_52 : decode cX0_findSplits 52 = .ok (.irem, 1) := by decide +kernel
theorem dX0_findSplits_53 : decode cX0_findSplits 53 = .ok (.ifCond .ne 7, 3) := by decide +kernel
theorem dX0_findSplits_56 : decode cX0_findSplits 56 = .ok (.iconst 0, 1) := by decide +kernel
theorem dX0_findSplits_57 : decode cX0_findSplits 57 = .ok (.goto 4, 3) := by decide +kernel
theorem dX0_findSplits_60 : decode cX0_findSplits 60 = .ok (.iconst 2, 1) := by decide +kernel
theorem dX0_findSplits_61 : decode cX0_findSplits 61 = .ok (.istore 5, 2) := by decide +kernel
theorem dX0_findSplits_63 : decode cX0_findSplits 63 = .ok (.aload_n 0, 1) := by decide +kernel
theorem dX0_findSplits_64 : decode cX0_findSplits 64 = .ok (.getfield 18, 3) := by decide +kernel
theorem dX0_findSplits_67 : decode cX0_findSplits 67 = .ok (.iconst 2, 1) := by decide +kernel
theorem dX0_findSplits_68 : decode cX0_findSplits 68 = .ok (.iload_n 3, 1) := by decide +kernel
theorem dX0_findSplits_69 : decode cX0_findSplits 69 = .ok (.imul, 1) := by decide +kernel
theorem dX0_findSplits_70 : decode cX0_findSplits 70 = .ok (.aload_n 1, 1) := by decide +kernel
theorem dX0_findSplits_71 : decode cX0_findSplits 71 = .ok (.iload 4, 2) := by decide +kernel
theorem dX0_findSplits_73 : decode cX0_findSplits 73 = .ok (.iload 5, 2) := by decide +kernel
theorem dX0_findSplits_75 : decode cX0_findSplits 75 = .ok (.invokestatic 82, 3) := by decide +kernel
theorem dX0_findSplits_78 : decode cX0_findSplits 78 = .ok (.iastore, 1) := by decide +kernel
theorem dX0_findSplits_79 : decode cX0_findSplits 79 = .ok (.aload_n 0, 1) := by decide +kernel
theorem dX0_findSplits_80 : decode cX0_findSplits 80 = .ok (.getfield 18, 3) := by decide +kernel
theorem dX0_findSplits_83 : decode cX0_findSplits 83 = .ok (.iconst 2, 1) := by decide +kernel
theorem dX0_findSplits_84 : decode cX0_findSplits 84 = .ok (.iload_n 3, 1) := by decide +kernel
theorem dX0_findSplits_85 : decode cX0_findSplits 85 = .ok (.imul, 1) := by decide +kernel
theorem dX0_findSplits_86 : decode cX0_findSplits 86 = .ok (.iconst 1, 1) := by decide +kernel
theorem dX0_findSplits_87 : decode cX0_findSplits 87 = .ok (.iadd, 1) := by decide +kernel
theorem dX0_findSplits_88 : decode cX0_findSplits 88 = .ok (.aload_n 1, 1) := by decide +kernel
theorem dX0_findSplits_89 : decode cX0_findSplits 89 = .ok (.iload 4, 2) := by decide +kernel
theorem dX0_findSplits_91 : decode cX0_findSplits 91 = .ok (.aload_n 1, 1) := by decide +kernel
theorem dX0_findSplits_92 : decode cX0_findSplits 92 = .ok (.iload 4, 2) := by decide +kernel
theorem dX0_findSplits_94 : decode cX0_findSplits 94 = .ok (.invokevirtual 85, 3) := by decide +kernel
theorem dX0_findSplits_97 : decode cX0_findSplits 97 = .ok (.iload 5, 2) := by decide +kernel
theorem dX0_findSplits_99 : decode cX0_findSplits 99 = .ok (.invokestatic 88, 3) := by decide +kernel
theorem dX0_findSplits_102 : decode cX0_findSplits 102 = .ok (.invokestatic 82, 3) := by decide +kernel
theorem dX0_findSplits_105 : decode cX0_findSplits 105 = .ok (.iastore, 1) := by decide +kernel
theorem dX0_findSplits_106 : decode cX0_findSplits 106 = .ok (.aload_n 0, 1) := by decide +kernel
theorem dX0_findSplits_107 : decode cX0_findSplits 107 = .ok (.aload_n 0, 1) := by decide +kernel
theorem dX0_findSplits_108 : decode cX0_findSplits 108 = .ok (.getfield 18, 3) := by decide +kernel
theorem dX0_findSplits_111 : decode cX0_findSplits 111 = .ok (.iconst 2, 1) := by decide +kernel
theorem dX0_findSplits_112 : decode cX0_findSplits 112 = .ok (.iload_n 3, 1) := by decide +kernel
theorem dX0_findSplits_113 : decode cX0_findSplits 113 = .ok (.imul, 1) := by decide +kernel
theorem dX0_findSplits_114 : decode cX0_findSplits 114 = .ok (.iaload, 1) := by decide +kernel
theorem dX0_findSplits_115 : decode cX0_findSplits 115 = .ok (.invokevirtual 79, 3) := by decide +kernel
theorem dX0_findSplits_118 : decode cX0_findSplits 118 = .ok (.aload_n 0, 1) := by decide +kernel
theorem dX0_findSplits_119 : decode cX0_findSplits 119 = .ok (.aload_n 0, 1) := by decide +kernel
theorem dX0_findSplits_120 : decode cX0_findSplits 120 = .ok (.getfield 18, 3) := by decide +kernel
theorem dX0_findSplits_123 : decode cX0_findSplits 123 = .ok (.iconst 2, 1) := by decide +kernel
theorem dX0_findSplits_124 : decode cX0_findSplits 124 = .ok (.iload_n 3, 1) := by decide +kernel
theorem dX0_findSplits_125 : decode cX0_findSplits 125 = .ok (.imul, 1) := by decide +kernel
theorem dX0_findSplits_126 : decode cX0_findSplits 126 = .ok (.iconst 1, 1) := by decide +kernel
theorem dX0_findSplits_127 : decode cX0_findSplits 127 = .ok (.iadd, 1) := by decide +kernel
theorem dX0_findSplits_128 : decode cX0_findSplits 128 = .ok (.iaload, 1) := by decide +kernel
theorem dX0_findSplits_129 : decode cX0_findSplits 129 = .ok (.invokevirtual 79, 3) := by decide +kernel
theorem dX0_findSplits_132 : decode cX0_findSplits 132 = .ok (.iinc 3 1, 3) := by decide +kernel
theorem dX0_findSplits_135 : decode cX0_findSplits 135 = .ok (.goto (-114), 3) := by decide +kernel
theorem dX0_findSplits_138 : decode cX0_findSplits 138 = .ok (.return_, 1) := by decide +kernel
theorem dX0_noteSplit_0 : decode cX0_noteSplit 0 = .ok (.iload_n 1, 1) := by decide +kernel
theorem dX0_noteSplit_1 : decode cX0_noteSplit 1 = .ok (.ifCond .lt 29, 3) := by decide +kernel
theorem dX0_noteSplit_4 : decode cX0_noteSplit 4 = .ok (.iload_n 1, 1) := by decide +kernel
theorem dX0_noteSplit_5 : decode cX0_noteSplit 5 = .ok (.bipush 40, 2) := by decide +kernel
theorem dX0_noteSplit_7 : decode cX0_noteSplit 7 = .ok (.if_icmp .ge 23, 3) := by decide +kernel
theorem dX0_noteSplit_10 : decode cX0_noteSplit 10 = .ok (.aload_n 0, 1) := by decide +kernel
theorem dX0_noteSplit_11 : decode cX0_noteSplit 11 = .ok (.getfield 30, 3) := by decide +kernel
theorem dX0_noteSplit_14 : decode cX0_noteSplit 14 = .ok (.bipush 10, 2) := by decide +kernel
theorem dX0_noteSplit_16 : decode cX0_noteSplit 16 = .ok (.if_icmp .ge 14, 3) := by decide +kernel
theorem dX0_noteSplit_19 : decode cX0_noteSplit 19 = .ok (.aload_n 0, 1) := by decide +kernel
theorem dX0_noteSplit_20 : decode cX0_noteSplit 20 = .ok (.getfield 15, 3) := by decide +kernel
theorem dX0_noteSplit_23 : decode cX0_noteSplit 23 = .ok (.iload_n 1, 1) := by decide +kernel
theorem dX0_noteSplit_24 : decode cX0_noteSplit 24 = .ok (.iaload, 1) := by decide +kernel
theorem dX0_noteSplit_25 : decode cX0_noteSplit 25 = .ok (.bipush (-4), 2) := by decide +kernel
theorem dX0_noteSplit_27 : decode cX0_noteSplit 27 = .ok (.if_icmp .eq 4, 3) := by decide +kernel
theorem dX0_noteSplit_30 : decode cX0_noteSplit 30 = .ok (.return_, 1) := by decide +kernel
theorem dX0_noteSplit_31 : decode cX0_noteSplit 31 = .ok (.aload_n 0, 1) := by decide +kernel
theorem dX0_noteSplit_32 : decode cX0_noteSplit 32 = .ok (.getfield 15, 3) := by decide +kernel
theorem dX0_noteSplit_35 : decode cX0_noteSplit 35 = .ok (.iload_n 1, 1) := by decide +kernel
theorem dX0_noteSplit_36 : decode cX0_noteSplit 36 = .ok (.aload_n 0, 1) := by decide +kernel
theorem dX0_noteSplit_37 : decode cX0_noteSplit 37 = .ok (.getfield 30, 3) := by decide +kernel
theorem dX0_noteSplit_40 : decode cX0_noteSplit 40 = .ok (.iastore, 1) := by decide +kernel
theorem dX0_noteSplit_41 : decode cX0_noteSplit 41 = .ok (.aload_n 0, 1) := by decide +kernel
theorem dX0_noteSplit_42 : decode cX0_noteSplit 42 = .ok (.getfield 11, 3) := by decide +kernel
theorem dX0_noteSplit_45 : decode cX0_noteSplit 45 = .ok (.aload_n 0, 1) := by decide +kernel
theorem dX0_noteSplit_46 : decode cX0_noteSplit 46 = .ok (.getfield 30, 3) := by decide +kernel
theorem dX0_noteSplit_49 : decode cX0_noteSplit 49 = .ok (.iload_n 1, 1) := by decide +kernel
theorem dX0_noteSplit_50 : decode cX0_noteSplit 50 = .ok (.iastore, 1) := by decide +kernel
theorem dX0_noteSplit_51 : decode cX0_noteSplit 51 = .ok (.aload_n 0, 1) := by decide +kernel
theorem dX0_noteSplit_52 : decode cX0_noteSplit 52 = .ok (.dup, 1) := by decide +kernel
theorem dX0_noteSplit_53 : decode cX0_noteSplit 53 = .ok (.getfield 30, 3) := by decide +kernel
theorem dX0_noteSplit_56 : decode cX0_noteSplit 56 = .ok (.iconst 1, 1) := by decide +kernel
theorem dX0_noteSplit_57 : decode cX0_noteSplit 57 = .ok (.iadd, 1) := by decide +kernel
theorem dX0_noteSplit_58 : decode cX0_noteSplit 58 = .ok (.putfield 30, 3) := by decide +kernel
theorem dX0_noteSplit_61 : decode cX0_noteSplit 61 = .ok (.return_, 1) := by decide +kernel
set_option maxRecDepth 20000 in
theorem ggX0_endBeyond_X2_beyond : GoodIn wsX0_endBeyond wsX2_beyond := goodIn_r _ [5, 6, 7, 31, 32, 33] (by decide +kernel) (by decide +kernel)
set_option maxRecDepth 20000 in
theorem gX0_endBeyond_X2_beyond : GoodIn wsX0_endBeyond (wsV RX0 92 RX2 yX2_beyond wsX2_beyond) := goodIn_app (goodIn_of _ (by decide +kernel)) ggX0_endBeyond_X2_beyond
set_option maxRecDepth 20000 in
theorem ggX0_endBeyond_X0_endOf : GoodIn wsX0_endBeyond wsX0_endOf := goodIn_r _ [11, 12, 13, 14, 4, 15, 16, 17, 18, 19, 20, 6, 7, 21, 22, 23, 24, 25, 26, 27, 28, 29, 30, 1, 2, 3, 5, 31, 32, 33] (by decide +kernel) (by decide +kernel)
set_option maxRecDepth 20000 in
theorem gX0_endBeyond_X0_endOf : GoodIn wsX0_endBeyond (va_wsS RX0 55 yX0_endOf wsX0_endOf) := goodIn_app (goodIn_of _ (by decide +kernel)) ggX0_endBeyond_X0_endOf
theorem dX0_endBeyond_0 : decode cX0_endBeyond 0 = .ok (.aload_n 0, 1) := by decide +kernel
theorem dX0_endBeyond_1 : decode cX0_endBeyond 1 = .ok (.iload_n 1, 1) := by decide +kernel
theorem dX0_endBeyond_2 : decode cX0_endBeyond 2 = .ok (.iload_n 2, 1) := by decide +kernel
theorem dX0_endBeyond_3 : decode cX0_endBeyond 3 = .ok (.invokevirtual 92, 3) := by decide +kernel
theorem dX0_endBeyond_6 : decode cX0_endBeyond 6 = .ok (.istore_n 3, 1) := by decide +kernel
theorem dX0_endBeyond_7 : decode cX0_endBeyond 7 = .ok (.iload_n 3, 1) := by decide +kernel
theorem dX0_endBeyond_8 : decode cX0_endBeyond 8 = .ok (.ifCond .lt 12, 3) := by decide +kernel
theorem dX0_endBeyond_11 : decode cX0_endBeyond 11 = .ok (.aload_n 0, 1) := by decide +kernel
theorem dX0_endBeyond_12 : decode cX0_endBeyond 12 = .ok (.iload_n 3, 1) := by decide +kernel
theorem dX0_endBeyond_13 : decode cX0_endBeyond 13 = .ok (.iload_n 2, 1) := by decide +kernel
theorem dX0_endBeyond_14 : decode cX0_endBeyond 14 = .ok (.invokestatic 55, 3) := by decide +kernel
theorem dX0_endBeyond_17 : decode cX0_endBeyond 17 = .ok (.goto 9, 3) := by decide +kernel
theorem dX0_endBeyond_20 : decode cX0_endBeyond 20 = .ok (.bipush 40, 2) := by decide +kernel
theorem dX0_endBeyond_22 : decode cX0_endBeyond 22 = .ok (.iload_n 3, 1) := by decide +kernel
theorem dX0_endBeyond_23 : decode cX0_endBeyond 23 = .ok (.iconst (-1), 1) := by decide +kernel
theorem dX0_endBeyond_24 : decode cX0_endBeyond 24 = .ok (.ixor, 1) := by decide +kernel
theorem dX0_endBeyond_25 : decode cX0_endBeyond 25 = .ok (.iadd, 1) := by decide +kernel
theorem dX0_endBeyond_26 : decode cX0_endBeyond 26 = .ok (.ireturn, 1) := by decide +kernel
set_option maxRecDepth 20000 in
theorem ggX0_endOf_X2_kindAt : GoodIn wsX0_endOf wsX2_kindAt := goodIn_r _ [5, 6, 7, 8, 9, 4, 10, 11, 12, 27, 28, 29] (by decide +kernel) (by decide +kernel)
set_option maxRecDepth 20000 in
theorem gX0_endOf_X2_kindAt : GoodIn wsX0_endOf (wsV RX0 85 RX2 yX2_kindAt wsX2_kindAt) := goodIn_app (goodIn_of _ (by decide +kernel)) ggX0_endOf_X2_kindAt
set_option maxRecDepth 20000 in
theorem ggX0_endOf_X5_isHalf : GoodIn wsX0_endOf wsX5_isHalf := goodIn_r _ [15] (by decide +kernel) (by decide +kernel)
set_option maxRecDepth 20000 in
theorem gX0_endOf_X5_isHalf_n95 : GoodIn wsX0_endOf (wsX5_isHalf) := ggX0_endOf_X5_isHalf
set_option maxRecDepth 20000 in
theorem ggX0_endOf_X5_turnedBy : GoodIn wsX0_endOf wsX5_turnedBy := goodIn_r _ [17] (by decide +kernel) (by decide +kernel)
set_option maxRecDepth 20000 in
theorem gX0_endOf_X5_turnedBy_n88 : GoodIn wsX0_endOf (wsX5_turnedBy) := ggX0_endOf_X5_turnedBy
set_option maxRecDepth 20000 in
theorem ggX0_endOf_X5_letsOn : GoodIn wsX0_endOf wsX5_letsOn := goodIn_r _ [19, 20, 13, 14, 15] (by decide +kernel) (by decide +kernel)
set_option maxRecDepth 20000 in
theorem gX0_endOf_X5_letsOn_n99 : GoodIn wsX0_endOf (wsX5_letsOn) := ggX0_endOf_X5_letsOn
set_option maxRecDepth 20000 in
theorem ggX0_endOf_X5_turnsBeam : GoodIn wsX0_endOf wsX5_turnsBeam := goodIn_r _ [22, 20, 13, 14, 15] (by decide +kernel) (by decide +kernel)
set_option maxRecDepth 20000 in
theorem gX0_endOf_X5_turnsBeam_n102 : GoodIn wsX0_endOf (wsX5_turnsBeam) := ggX0_endOf_X5_turnsBeam
set_option maxRecDepth 20000 in
theorem ggX0_endOf_X2_beyond : GoodIn wsX0_endOf wsX2_beyond := goodIn_r _ [26, 11, 12, 27, 28, 29] (by decide +kernel) (by decide +kernel)
set_option maxRecDepth 20000 in
theorem gX0_endOf_X2_beyond : GoodIn wsX0_endOf (wsV RX0 92 RX2 yX2_beyond wsX2_beyond) := goodIn_app (goodIn_of _ (by decide +kernel)) ggX0_endOf_X2_beyond
theorem dX0_endOf_0 : decode cX0_endOf 0 = .ok (.iload_n 1, 1) := by decide +kernel
theorem dX0_endOf_1 : decode cX0_endOf 1 = .ok (.istore_n 3, 1) := by decide +kernel
theorem dX0_endOf_2 : decode cX0_endOf 2 = .ok (.iload_n 2, 1) := by decide +kernel
theorem dX0_endOf_3 : decode cX0_endOf 3 = .ok (.istore 4, 2) := by decide +kernel
theorem dX0_endOf_5 : decode cX0_endOf 5 = .ok (.iconst 0, 1) := by decide +kernel
theorem dX0_endOf_6 : decode cX0_endOf 6 = .ok (.istore 5, 2) := by decide +kernel
theorem dX0_endOf_8 : decode cX0_endOf 8 = .ok (.iload 5, 2) := by decide +kernel
theorem dX0_endOf_10 : decode cX0_endOf 10 = .ok (.bipush 80, 2) := by decide +kernel
theorem dX0_endOf_12 : decode cX0_endOf 12 = .ok (.if_icmp .ge 129, 3) := by decide +kernel
theorem dX0_endOf_15 : decode cX0_endOf 15 = .ok (.aload_n 0, 1) := by decide +kernel
theorem dX0_endOf_16 : decode cX0_endOf 16 = .ok (.iload_n 3, 1) := by decide +kernel
theorem dX0_endOf_17 : decode cX0_endOf 17 = .ok (.invokevirtual 85, 3) := by decide +kernel
theorem dX0_endOf_20 : decode cX0_endOf 20 = .ok (.istore 6, 2) := by decide +kernel
theorem dX0_endOf_22 : decode cX0_endOf 22 = .ok (.iload 6, 2) := by decide +kernel
theorem dX0_endOf_24 : decode cX0_endOf 24 = .ok (.invokestatic 95, 3) := by decide +kernel
theorem dX0_endOf_27 : decode cX0_endOf 27 = .ok (.ifCond .eq 42, 3) := by decide +kernel
theorem dX0_endOf_30 : decode cX0_endOf 30 = .ok (.iload 4, 2) := by decide +kernel
theorem dX0_endOf_32 : decode cX0_endOf 32 = .ok (.ifCond .eq 13, 3) := by decide +kernel
theorem dX0_endOf_35 : decode cX0_endOf 35 = .ok (.iload 6, 2) := by decide +kernel
theorem dX0_endOf_37 : decode cX0_endOf 37 = .ok (.iload 4, 2) := by decide +kernel
theorem dX0_endOf_39 : decode cX0_endOf 39 = .ok (.invokestatic 88, 3) := by decide +kernel
theorem dX0_endOf_42 : decode cX0_endOf 42 = .ok (.ifCond .ne 7, 3) := by decide +kernel
theorem dX0_endOf_45 : decode cX0_endOf 45 = .ok (.iconst 1, 1) := by decide +kernel
theorem dX0_endOf_46 : decode cX0_endOf 46 = .ok (.goto 4, 3) := by decide +kernel
theorem dX0_endOf_49 : decode cX0_endOf 49 = .ok (.iconst 0, 1) := by decide +kernel
theorem dX0_endOf_50 : decode cX0_endOf 50 = .ok (.istore 7, 2) := by decide +kernel
theorem dX0_endOf_52 : decode cX0_endOf 52 = .ok (.iload 7, 2) := by decide +kernel
theorem dX0_endOf_54 : decode cX0_endOf 54 = .ok (.ifCond .eq 9, 3) := by decide +kernel
theorem dX0_endOf_57 : decode cX0_endOf 57 = .ok (.iconst 2, 1) := by decide +kernel
theorem dX0_endOf_58 : decode cX0_endOf 58 = .ok (.iload_n 3, 1) := by decide +kernel
theorem dX0_endOf_59 : decode cX0_endOf 59 = .ok (.imul, 1) := by decide +kernel
theorem dX0_endOf_60 : decode cX0_endOf 60 = .ok (.goto 8, 3) := by decide +kernel
theorem dX0_endOf_63 : decode cX0_endOf 63 = .ok (.iconst 2, 1) := by decide +kernel
theorem dX0_endOf_64 : decode cX0_endOf 64 = .ok (.iload_n 3, 1) := by decide +kernel
theorem dX0_endOf_65 : decode cX0_endOf 65 = .ok (.imul, 1) := by decide +kernel
theorem dX0_endOf_66 : decode cX0_endOf 66 = .ok (.iconst 1, 1) := by decide +kernel
theorem dX0_endOf_67 : decode cX0_endOf 67 = .ok (.iadd, 1) := by decide +kernel
theorem dX0_endOf_68 : decode cX0_endOf 68 = .ok (.ireturn, 1) := by decide +kernel
theorem dX0_endOf_69 : decode cX0_endOf 69 = .ok (.iload 6, 2) := by decide +kernel
theorem dX0_endOf_71 : decode cX0_endOf 71 = .ok (.invokestatic 99, 3) := by decide +kernel
theorem dX0_endOf_74 : decode cX0_endOf 74 = .ok (.ifCond .ne 14, 3) := by decide +kernel
theorem dX0_endOf_77 : decode cX0_endOf 77 = .ok (.iload 6, 2) := by decide +kernel
theorem dX0_endOf_79 : decode cX0_endOf 79 = .ok (.invokestatic 102, 3) := by decide +kernel
theorem dX0_endOf_82 : decode cX0_endOf 82 = .ok (.ifCond .ne 6, 3) := by decide +kernel
theorem dX0_endOf_85 : decode cX0_endOf 85 = .ok (.bipush 58, 2) := by decide +kernel
theorem dX0_endOf_87 : decode cX0_endOf 87 = .ok (.ireturn, 1) := by decide +kernel
theorem dX0_endOf_88 : decode cX0_endOf 88 = .ok (.iload 6, 2) := by decide +kernel
theorem dX0_endOf_90 : decode cX0_endOf 90 = .ok (.invokestatic 102, 3) := by decide +kernel
theorem dX0_endOf_93 : decode cX0_endOf 93 = .ok (.ifCond .eq 13, 3) := by decide +kernel
theorem dX0_endOf_96 : decode cX0_endOf 96 = .ok (.iload 6, 2) := by decide +kernel
theorem dX0_endOf_98 : decode cX0_endOf 98 = .ok (.iload 4, 2) := by decide +kernel
theorem dX0_endOf_100 : decode cX0_endOf 100 = .ok (.invokestatic 88, 3) := by decide +kernel
theorem dX0_endOf_103 : decode cX0_endOf 103 = .ok (.goto 5, 3) := by decide +kernel
theorem dX0_endOf_106 : decode cX0_endOf 106 = .ok (.iload 4, 2) := by decide +kernel
theorem dX0_endOf_108 : decode cX0_endOf 108 = .ok (.istore 4, 2) := by decide +kernel
theorem dX0_endOf_110 : decode cX0_endOf 110 = .ok (.aload_n 0, 1) := by decide +kernel
theorem dX0_endOf_111 : decode cX0_endOf 111 = .ok (.iload_n 3, 1) := by decide +kernel
theorem dX0_endOf_112 : decode cX0_endOf 112 = .ok (.iload 4, 2) := by decide +kernel
theorem dX0_endOf_114 : decode cX0_endOf 114 = .ok (.invokevirtual 92, 3) := by decide +kernel
theorem dX0_endOf_117 : decode cX0_endOf 117 = .ok (.istore 7, 2) := by decide +kernel
theorem dX0_endOf_119 : decode cX0_endOf 119 = .ok (.iload 7, 2) := by decide +kernel
theorem dX0_endOf_121 : decode cX0_endOf 121 = .ok (.ifCond .ge 11, 3) := by decide +kernel
theorem dX0_endOf_124 : decode cX0_endOf 124 = .ok (.bipush 40, 2) := by decide +kernel
theorem dX0_endOf_126 : decode cX0_endOf 126 = .ok (.iload 7, 2) := by decide +kernel
theorem dX0_endOf_128 : decode cX0_endOf 128 = .ok (.iconst (-1), 1) := by decide +kernel
theorem dX0_endOf_129 : decode cX0_endOf 129 = .ok (.ixor, 1) := by decide +kernel
theorem dX0_endOf_130 : decode cX0_endOf 130 = .ok (.iadd, 1) := by decide +kernel
theorem dX0_endOf_131 : decode cX0_endOf 131 = .ok (.ireturn, 1) := by decide +kernel
theorem dX0_endOf_132 : decode cX0_endOf 132 = .ok (.iload 7, 2) := by decide +kernel
theorem dX0_endOf_134 : decode cX0_endOf 134 = .ok (.istore_n 3, 1) := by decide +kernel
theorem dX0_endOf_135 : decode cX0_endOf 135 = .ok (.iinc 5 1, 3) := by decide +kernel
theorem dX0_endOf_138 : decode cX0_endOf 138 = .ok (.goto (-130), 3) := by decide +kernel
theorem dX0_endOf_141 : decode cX0_endOf 141 = .ok (.bipush 59, 2) := by decide +kernel
theorem dX0_endOf_143 : decode cX0_endOf 143 = .ok (.ireturn, 1) := by decide +kernel
set_option maxRecDepth 20000 in
theorem ggX0_setRows_J7_fill_d0a16 : GoodIn wsX0_setRows wsJ7_fill_d0a16 := goodIn_r _ [9] (by decide +kernel) (by decide +kernel)
set_option maxRecDepth 20000 in
theorem gX0_setRows_J7_fill_d0a16 : GoodIn wsX0_setRows (va_wsS RX0 105 yJ7_fill_d0a16 wsJ7_fill_d0a16) := goodIn_app (goodIn_of _ (by decide +kernel)) ggX0_setRows_J7_fill_d0a16
theorem dX0_setRows_0 : decode cX0_setRows 0 = .ok (.iconst 0, 1) := by decide +kernel
theorem dX0_setRows_1 : decode cX0_setRows 1 = .ok (.istore_n 1, 1) := by decide +kernel
theorem dX0_setRows_2 : decode cX0_setRows 2 = .ok (.iload_n 1, 1) := by decide +kernel
theorem dX0_setRows_3 : decode cX0_setRows 3 = .ok (.aload_n 0, 1) := by decide +kernel
theorem dX0_setRows_4 : decode cX0_setRows 4 = .ok (.getfield 30, 3) := by decide +kernel
theorem dX0_setRows_7 : decode cX0_setRows 7 = .ok (.if_icmp .ge 50, 3) := by decide +kernel
theorem dX0_setRows_10 : decode cX0_setRows 10 = .ok (.aload_n 0, 1) := by decide +kernel
theorem dX0_setRows_11 : decode cX0_setRows 11 = .ok (.getfield 23, 3) := by decide +kernel
theorem dX0_setRows_14 : decode cX0_setRows 14 = .ok (.iload_n 1, 1) := by decide +kernel
theorem dX0_setRows_15 : decode cX0_setRows 15 = .ok (.aaload, 1) := by decide +kernel
theorem dX0_setRows_16 : decode cX0_setRows 16 = .ok (.lconst 0, 1) := by decide +kernel
theorem dX0_setRows_17 : decode cX0_setRows 17 = .ok (.invokestatic 105, 3) := by decide +kernel
theorem dX0_setRows_20 : decode cX0_setRows 20 = .ok (.aload_n 0, 1) := by decide +kernel
theorem dX0_setRows_21 : decode cX0_setRows 21 = .ok (.getfield 23, 3) := by decide +kernel
theorem dX0_setRows_24 : decode cX0_setRows 24 = .ok (.iload_n 1, 1) := by decide +kernel
theorem dX0_setRows_25 : decode cX0_setRows 25 = .ok (.aaload, 1) := by decide +kernel
theorem dX0_setRows_26 : decode cX0_setRows 26 = .ok (.iload_n 1, 1) := by decide +kernel
theorem dX0_setRows_27 : decode cX0_setRows 27 = .ok (.ldc2_w 108, 3) := by decide +kernel
theorem dX0_setRows_30 : decode cX0_setRows 30 = .ok (.lastore, 1) := by decide +kernel
theorem dX0_setRows_31 : decode cX0_setRows 31 = .ok (.aload_n 0, 1) := by decide +kernel
theorem dX0_setRows_32 : decode cX0_setRows 32 = .ok (.getfield 23, 3) := by decide +kernel
theorem dX0_setRows_35 : decode cX0_setRows 35 = .ok (.iload_n 1, 1) := by decide +kernel
theorem dX0_setRows_36 : decode cX0_setRows 36 = .ok (.aaload, 1) := by decide +kernel
theorem dX0_setRows_37 : decode cX0_setRows 37 = .ok (.aload_n 0, 1) := by decide +kernel
theorem dX0_setRows_38 : decode cX0_setRows 38 = .ok (.getfield 30, 3) := by decide +kernel
theorem dX0_setRows_41 : decode cX0_setRows 41 = .ok (.iload_n 1, 1) := by decide +kernel
theorem dX0_setRows_42 : decode cX0_setRows 42 = .ok (.ifCond .ne 7, 3) := by decide +kernel
theorem dX0_setRows_45 : decode cX0_setRows 45 = .ok (.lconst 1, 1) := by decide +kernel
theorem dX0_setRows_46 : decode cX0_setRows 46 = .ok (.goto 4, 3) := by decide +kernel
theorem dX0_setRows_49 : decode cX0_setRows 49 = .ok (.lconst 0, 1) := by decide +kernel
theorem dX0_setRows_50 : decode cX0_setRows 50 = .ok (.lastore, 1) := by decide +kernel
theorem dX0_setRows_51 : decode cX0_setRows 51 = .ok (.iinc 1 1, 3) := by decide +kernel
theorem dX0_setRows_54 : decode cX0_setRows 54 = .ok (.goto (-52), 3) := by decide +kernel
theorem dX0_setRows_57 : decode cX0_setRows 57 = .ok (.iconst 0, 1) := by decide +kernel
theorem dX0_setRows_58 : decode cX0_setRows 58 = .ok (.istore_n 1, 1) := by decide +kernel
theorem dX0_setRows_59 : decode cX0_setRows 59 = .ok (.iload_n 1, 1) := by decide +kernel
theorem dX0_setRows_60 : decode cX0_setRows 60 = .ok (.iconst 2, 1) := by decide +kernel
theorem dX0_setRows_61 : decode cX0_setRows 61 = .ok (.aload_n 0, 1) := by decide +kernel
theorem dX0_setRows_62 : decode cX0_setRows 62 = .ok (.getfield 30, 3) := by decide +kernel
theorem dX0_setRows_65 : decode cX0_setRows 65 = .ok (.imul, 1) := by decide +kernel
theorem dX0_setRows_66 : decode cX0_setRows 66 = .ok (.if_icmp .ge 64, 3) := by decide +kernel
theorem dX0_setRows_69 : decode cX0_setRows 69 = .ok (.aload_n 0, 1) := by decide +kernel
theorem dX0_setRows_70 : decode cX0_setRows 70 = .ok (.getfield 18, 3) := by decide +kernel
theorem dX0_setRows_73 : decode cX0_setRows 73 = .ok (.iload_n 1, 1) := by decide +kernel
theorem dX0_setRows_74 : decode cX0_setRows 74 = .ok (.iaload, 1) := by decide +kernel
theorem dX0_setRows_75 : decode cX0_setRows 75 = .ok (.istore_n 2, 1) := by decide +kernel
theorem dX0_setRows_76 : decode cX0_setRows 76 = .ok (.iload_n 2, 1) := by decide +kernel
theorem dX0_setRows_77 : decode cX0_setRows 77 = .ok (.ifCond .lt 18, 3) := by decide +kernel
theorem dX0_setRows_80 : decode cX0_setRows 80 = .ok (.iload_n 2, 1) := by decide +kernel
theorem dX0_setRows_81 : decode cX0_setRows 81 = .ok (.bipush 60, 2) := by decide +kernel
theorem dX0_setRows_83 : decode cX0_setRows 83 = .ok (.if_icmp .ge 12, 3) := by decide +kernel
theorem dX0_setRows_86 : decode cX0_setRows 86 = .ok (.aload_n 0, 1) := by decide +kernel
theorem dX0_setRows_87 : decode cX0_setRows 87 = .ok (.getfield 15, 3) := by decide +kernel
theorem dX0_setRows_90 : decode cX0_setRows 90 = .ok (.iload_n 2, 1) := by decide +kernel
theorem dX0_setRows_91 : decode cX0_setRows 91 = .ok (.iaload, 1) := by decide +kernel
theorem dX0_setRows_92 : decode cX0_setRows 92 = .ok (.goto 5, 3) := by decide +kernel
theorem dX0_setRows_95 : decode cX0_setRows 95 = .ok (.bipush (-4), 2) := by decide +kernel
theorem dX0_setRows_97 : decode cX0_setRows 97 = .ok (.istore_n 3, 1) := by decide +kernel
theorem dX0_setRows_98 : decode cX0_setRows 98 = .ok (.iload_n 3, 1) := by decide +kernel
theorem dX0_setRows_99 : decode cX0_setRows 99 = .ok (.ifCond .lt 25, 3) := by decide +kernel
theorem dX0_setRows_102 : decode cX0_setRows 102 = .ok (.iload_n 3, 1) := by decide +kernel
theorem dX0_setRows_103 : decode cX0_setRows 103 = .ok (.aload_n 0, 1) := by decide +kernel
theorem dX0_setRows_104 : decode cX0_setRows 104 = .ok (.getfield 30, 3) := by decide +kernel
theorem dX0_setRows_107 : decode cX0_setRows 107 = .ok (.if_icmp .ge 17, 3) := by decide +kernel
theorem dX0_setRows_110 : decode cX0_setRows 110 = .ok (.aload_n 0, 1) := by decide +kernel
theorem dX0_setRows_111 : decode cX0_setRows 111 = .ok (.getfield 23, 3) := by decide +kernel
theorem dX0_setRows_114 : decode cX0_setRows 114 = .ok (.iload_n 3, 1) := by decide +kernel
theorem dX0_setRows_115 : decode cX0_setRows 115 = .ok (.aaload, 1) := by decide +kernel
theorem dX0_setRows_116 : decode cX0_setRows 116 = .ok (.iload_n 1, 1) := by decide +kernel
theorem dX0_setRows_117 : decode cX0_setRows 117 = .ok (.iconst 2, 1) := by decide +kernel
theorem dX0_setRows_118 : decode cX0_setRows 118 = .ok (.idiv, 1) := by decide +kernel
theorem dX0_setRows_119 : decode cX0_setRows 119 = .ok (.dup2, 1) := by decide +kernel
theorem dX0_setRows_120 : decode cX0_setRows 120 = .ok (.laload, 1) := by decide +kernel
theorem dX0_setRows_121 : decode cX0_setRows 121 = .ok (.lconst 1, 1) := by decide +kernel
theorem dX0_setRows_122 : decode cX0_setRows 122 = .ok (.lsub, 1) := by decide +kernel
theorem dX0_setRows_123 : decode cX0_setRows 123 = .ok (.lastore, 1) := by decide +kernel
theorem dX0_setRows_124 : decode cX0_setRows 124 = .ok (.iinc 1 1, 3) := by decide +kernel
theorem dX0_setRows_127 : decode cX0_setRows 127 = .ok (.goto (-68), 3) := by decide +kernel
theorem dX0_setRows_130 : decode cX0_setRows 130 = .ok (.return_, 1) := by decide +kernel
set_option maxRecDepth 20000 in
theorem ggX0_solveRows_X0_clearColumn : GoodIn wsX0_solveRows wsX0_clearColumn := goodIn_r _ [8, 2, 1, 9, 10, 11, 12, 13, 14, 15] (by decide +kernel) (by decide +kernel)
set_option maxRecDepth 20000 in
theorem gX0_solveRows_X0_clearColumn : GoodIn wsX0_solveRows (wsV RX0 110 RX0 yX0_clearColumn wsX0_clearColumn) := goodIn_app (goodIn_of _ (by decide +kernel)) ggX0_solveRows_X0_clearColumn
theorem dX0_solveRows_0 : decode cX0_solveRows 0 = .ok (.aload_n 0, 1) := by decide +kernel
theorem dX0_solveRows_1 : decode cX0_solveRows 1 = .ok (.lconst 1, 1) := by decide +kernel
theorem dX0_solveRows_2 : decode cX0_solveRows 2 = .ok (.putfield 34, 3) := by decide +kernel
theorem dX0_solveRows_5 : decode cX0_solveRows 5 = .ok (.iconst 0, 1) := by decide +kernel
theorem dX0_solveRows_6 : decode cX0_solveRows 6 = .ok (.istore_n 1, 1) := by decide +kernel
theorem dX0_solveRows_7 : decode cX0_solveRows 7 = .ok (.iload_n 1, 1) := by decide +kernel
theorem dX0_solveRows_8 : decode cX0_solveRows 8 = .ok (.aload_n 0, 1) := by decide +kernel
theorem dX0_solveRows_9 : decode cX0_solveRows 9 = .ok (.getfield 30, 3) := by decide +kernel
theorem dX0_solveRows_12 : decode cX0_solveRows 12 = .ok (.if_icmp .ge 66, 3) := by decide +kernel
theorem dX0_solveRows_15 : decode cX0_solveRows 15 = .ok (.aload_n 0, 1) := by decide +kernel
theorem dX0_solveRows_16 : decode cX0_solveRows 16 = .ok (.getfield 23, 3) := by decide +kernel
theorem dX0_solveRows_19 : decode cX0_solveRows 19 = .ok (.iload_n 1, 1) := by decide +kernel
theorem dX0_solveRows_20 : decode cX0_solveRows 20 = .ok (.aaload, 1) := by decide +kernel
theorem dX0_solveRows_21 : decode cX0_solveRows 21 = .ok (.iload_n 1, 1) := by decide +kernel
theorem dX0_solveRows_22 : decode cX0_solveRows 22 = .ok (.laload, 1) := by decide +kernel
theorem dX0_solveRows_23 : decode cX0_solveRows 23 = .ok (.lstore_n 2, 1) := by decide +kernel
theorem dX0_solveRows_24 : decode cX0_solveRows 24 = .ok (.iconst 0, 1) := by decide +kernel
theorem dX0_solveRows_25 : decode cX0_solveRows 25 = .ok (.istore 4, 2) := by decide +kernel
theorem dX0_solveRows_27 : decode cX0_solveRows 27 = .ok (.iload 4, 2) := by decide +kernel
theorem dX0_solveRows_29 : decode cX0_solveRows 29 = .ok (.aload_n 0, 1) := by decide +kernel
theorem dX0_solveRows_30 : decode cX0_solveRows 30 = .ok (.getfield 30, 3) := by decide +kernel
theorem dX0_solveRows_33 : decode cX0_solveRows 33 = .ok (.if_icmp .ge 34, 3) := by decide +kernel
theorem dX0_solveRows_36 : decode cX0_solveRows 36 = .ok (.iload 4, 2) := by decide +kernel
theorem dX0_solveRows_38 : decode cX0_solveRows 38 = .ok (.iload_n 1, 1) := by decide +kernel
theorem dX0_solveRows_39 : decode cX0_solveRows 39 = .ok (.if_icmp .eq 22, 3) := by decide +kernel
theorem dX0_solveRows_42 : decode cX0_solveRows 42 = .ok (.aload_n 0, 1) := by decide +kernel
theorem dX0_solveRows_43 : decode cX0_solveRows 43 = .ok (.aload_n 0, 1) := by decide +kernel
theorem dX0_solveRows_44 : decode cX0_solveRows 44 = .ok (.getfield 23, 3) := by decide +kernel
theorem dX0_solveRows_47 : decode cX0_solveRows 47 = .ok (.iload 4, 2) := by decide +kernel
theorem dX0_solveRows_49 : decode cX0_solveRows 49 = .ok (.aaload, 1) := by decide +kernel
theorem dX0_solveRows_50 : decode cX0_solveRows 50 = .ok (.aload_n 0, 1) := by decide +kernel
theorem dX0_solveRows_51 : decode cX0_solveRows 51 = .ok (.getfield 23, 3) := by decide +kernel
theorem dX0_solveRows_54 : decode cX0_solveRows 54 = .ok (.iload_n 1, 1) := by decide +kernel
theorem dX0_solveRows_55 : decode cX0_solveRows 55 = .ok (.aaload, 1) := by decide +kernel
theorem dX0_solveRows_56 : decode cX0_solveRows 56 = .ok (.iload_n 1, 1) := by decide +kernel
theorem dX0_solveRows_57 : decode cX0_solveRows 57 = .ok (.lload_n 2, 1) := by decide +kernel
theorem dX0_solveRows_58 : decode cX0_solveRows 58 = .ok (.invokevirtual 110, 3) := by decide +kernel
theorem dX0_solveRows_61 : decode cX0_solveRows 61 = .ok (.iinc 4 1, 3) := by decide +kernel
theorem dX0_solveRows_64 : decode cX0_solveRows 64 = .ok (.goto (-37), 3) := by decide +kernel
theorem dX0_solveRows_67 : decode cX0_solveRows 67 = .ok (.aload_n 0, 1) := by decide +kernel
theorem dX0_solveRows_68 : decode cX0_solveRows 68 = .ok (.lload_n 2, 1) := by decide +kernel
theorem dX0_solveRows_69 : decode cX0_solveRows 69 = .ok (.putfield 34, 3) := by decide +kernel
theorem dX0_solveRows_72 : decode cX0_solveRows 72 = .ok (.iinc 1 1, 3) := by decide +kernel
theorem dX0_solveRows_75 : decode cX0_solveRows 75 = .ok (.goto (-68), 3) := by decide +kernel
theorem dX0_solveRows_78 : decode cX0_solveRows 78 = .ok (.return_, 1) := by decide +kernel
theorem dX0_clearColumn_0 : decode cX0_clearColumn 0 = .ok (.iload_n 3, 1) := by decide +kernel
theorem dX0_clearColumn_1 : decode cX0_clearColumn 1 = .ok (.iconst 1, 1) := by decide +kernel
theorem dX0_clearColumn_2 : decode cX0_clearColumn 2 = .ok (.iadd, 1) := by decide +kernel
theorem dX0_clearColumn_3 : decode cX0_clearColumn 3 = .ok (.istore 6, 2) := by decide +kernel
theorem dX0_clearColumn_5 : decode cX0_clearColumn 5 = .ok (.iload 6, 2) := by decide +kernel
theorem dX0_clearColumn_7 : decode cX0_clearColumn 7 = .ok (.aload_n 0, 1) := by decide +kernel
theorem dX0_clearColumn_8 : decode cX0_clearColumn 8 = .ok (.getfield 30, 3) := by decide +kernel
theorem dX0_clearColumn_11 : decode cX0_clearColumn 11 = .ok (.if_icmp .gt 43, 3) := by decide +kernel
theorem dX0_clearColumn_14 : decode cX0_clearColumn 14 = .ok (.aload_n 0, 1) := by decide +kernel
theorem dX0_clearColumn_15 : decode cX0_clearColumn 15 = .ok (.getfield 34, 3) := by decide +kernel
theorem dX0_clearColumn_18 : decode cX0_clearColumn 18 = .ok (.lconst 0, 1) := by decide +kernel
theorem dX0_clearColumn_19 : decode cX0_clearColumn 19 = .ok (.lcmp, 1) := by decide +kernel
theorem dX0_clearColumn_20 : decode cX0_clearColumn 20 = .ok (.ifCond .eq 34, 3) := by decide +kernel
theorem dX0_clearColumn_23 : decode cX0_clearColumn 23 = .ok (.aload_n 1, 1) := by decide +kernel
theorem dX0_clearColumn_24 : decode cX0_clearColumn 24 = .ok (.iload 6, 2) := by decide +kernel
theorem dX0_clearColumn_26 : decode cX0_clearColumn 26 = .ok (.lload 4, 2) := by decide +kernel
theorem dX0_clearColumn_28 : decode cX0_clearColumn 28 = .ok (.aload_n 1, 1) := by decide +kernel
theorem dX0_clearColumn_29 : decode cX0_clearColumn 29 = .ok (.iload 6, 2) := by decide +kernel
theorem dX0_clearColumn_31 : decode cX0_clearColumn 31 = .ok (.laload, 1) := by decide +kernel
theorem dX0_clearColumn_32 : decode cX0_clearColumn 32 = .ok (.lmul, 1) := by decide +kernel
theorem dX0_clearColumn_33 : decode cX0_clearColumn 33 = .ok (.aload_n 1, 1) := by decide +kernel
theorem dX0_clearColumn_34 : decode cX0_clearColumn 34 = .ok (.iload_n 3, 1) := by decide +kernel
theorem dX0_clearColumn_35 : decode cX0_clearColumn 35 = .ok (.laload, 1) := by decide +kernel
theorem dX0_clearColumn_36 : decode cX0_clearColumn 36 = .ok (.aload_n 2, 1) := by decide +kernel
theorem dX0_clearColumn_37 : decode cX0_clearColumn 37 = .ok (.iload 6, 2) := by decide +kernel
theorem dX0_clearColumn_39 : decode cX0_clearColumn 39 = .ok (.laload, 1) := by decide +kernel
theorem dX0_clearColumn_40 : decode cX0_clearColumn 40 = .ok (.lmul, 1) := by decide +kernel
theorem dX0_clearColumn_41 : decode cX0_clearColumn 41 = .ok (.lsub, 1) := by decide +kernel
theorem dX0_clearColumn_42 : decode cX0_clearColumn 42 = .ok (.aload_n 0, 1) := by decide +kernel
theorem dX0_clearColumn_43 : decode cX0_clearColumn 43 = .ok (.getfield 34, 3) := by decide +kernel
theorem dX0_clearColumn_46 : decode cX0_clearColumn 46 = .ok (.ldiv, 1) := by decide +kernel
theorem dX0_clearColumn_47 : decode cX0_clearColumn 47 = .ok (.lastore, 1) := by decide +kernel
theorem dX0_clearColumn_48 : decode cX0_clearColumn 48 = .ok (.iinc 6 1, 3) := by decide +kernel
theorem dX0_clearColumn_51 : decode cX0_clearColumn 51 = .ok (.goto (-46), 3) := by decide +kernel
theorem dX0_clearColumn_54 : decode cX0_clearColumn 54 = .ok (.return_, 1) := by decide +kernel
set_option maxRecDepth 20000 in
theorem ggX0_addParts_J7_fill_d0a16 : GoodIn wsX0_addParts wsJ7_fill_d0a16 := goodIn_r _ [9] (by decide +kernel) (by decide +kernel)
set_option maxRecDepth 20000 in
theorem gX0_addParts_J7_fill_d0a16 : GoodIn wsX0_addParts (va_wsS RX0 105 yJ7_fill_d0a16 wsJ7_fill_d0a16) := goodIn_app (goodIn_of _ (by decide +kernel)) ggX0_addParts_J7_fill_d0a16
set_option maxRecDepth 20000 in
theorem ggX0_addParts_X0_addPart : GoodIn wsX0_addParts wsX0_addPart := goodIn_r _ [14, 1, 15, 16, 17, 18, 19, 20, 21] (by decide +kernel) (by decide +kernel)
set_option maxRecDepth 20000 in
theorem gX0_addParts_X0_addPart : GoodIn wsX0_addParts (wsV RX0 114 RX0 yX0_addPart wsX0_addPart) := goodIn_app (goodIn_of _ (by decide +kernel)) ggX0_addParts_X0_addPart
theorem dX0_addParts_0 : decode cX0_addParts 0 = .ok (.aload_n 0, 1) := by decide +kernel
theorem dX0_addParts_1 : decode cX0_addParts 1 = .ok (.getfield 26, 3) := by decide +kernel
theorem dX0_addParts_4 : decode cX0_addParts 4 = .ok (.lconst 0, 1) := by decide +kernel
theorem dX0_addParts_5 : decode cX0_addParts 5 = .ok (.invokestatic 105, 3) := by decide +kernel
theorem dX0_addParts_8 : decode cX0_addParts 8 = .ok (.aload_n 0, 1) := by decide +kernel
theorem dX0_addParts_9 : decode cX0_addParts 9 = .ok (.iload_n 1, 1) := by decide +kernel
theorem dX0_addParts_10 : decode cX0_addParts 10 = .ok (.aload_n 0, 1) := by decide +kernel
theorem dX0_addParts_11 : decode cX0_addParts 11 = .ok (.getfield 34, 3) := by decide +kernel
theorem dX0_addParts_14 : decode cX0_addParts 14 = .ok (.invokevirtual 114, 3) := by decide +kernel
theorem dX0_addParts_17 : decode cX0_addParts 17 = .ok (.iconst 0, 1) := by decide +kernel
theorem dX0_addParts_18 : decode cX0_addParts 18 = .ok (.istore_n 2, 1) := by decide +kernel
theorem dX0_addParts_19 : decode cX0_addParts 19 = .ok (.iload_n 2, 1) := by decide +kernel
theorem dX0_addParts_20 : decode cX0_addParts 20 = .ok (.iconst 2, 1) := by decide +kernel
theorem dX0_addParts_21 : decode cX0_addParts 21 = .ok (.aload_n 0, 1) := by decide +kernel
theorem dX0_addParts_22 : decode cX0_addParts 22 = .ok (.getfield 30, 3) := by decide +kernel
theorem dX0_addParts_25 : decode cX0_addParts 25 = .ok (.imul, 1) := by decide +kernel
theorem dX0_addParts_26 : decode cX0_addParts 26 = .ok (.if_icmp .ge 32, 3) := by decide +kernel
theorem dX0_addParts_29 : decode cX0_addParts 29 = .ok (.aload_n 0, 1) := by decide +kernel
theorem dX0_addParts_30 : decode cX0_addParts 30 = .ok (.aload_n 0, 1) := by decide +kernel
theorem dX0_addParts_31 : decode cX0_addParts 31 = .ok (.getfield 18, 3) := by decide +kernel
theorem dX0_addParts_34 : decode cX0_addParts 34 = .ok (.iload_n 2, 1) := by decide +kernel
theorem dX0_addParts_35 : decode cX0_addParts 35 = .ok (.iaload, 1) := by decide +kernel
theorem dX0_addParts_36 : decode cX0_addParts 36 = .ok (.aload_n 0, 1) := by decide +kernel
theorem dX0_addParts_37 : decode cX0_addParts 37 = .ok (.getfield 23, 3) := by decide +kernel
theorem dX0_addParts_40 : decode cX0_addParts 40 = .ok (.iload_n 2, 1) := by decide +kernel
theorem dX0_addParts_41 : decode cX0_addParts 41 = .ok (.iconst 2, 1) := by decide +kernel
theorem dX0_addParts_42 : decode cX0_addParts 42 = .ok (.idiv, 1) := by decide +kernel
theorem dX0_addParts_43 : decode cX0_addParts 43 = .ok (.aaload, 1) := by decide +kernel
theorem dX0_addParts_44 : decode cX0_addParts 44 = .ok (.aload_n 0, 1) := by decide +kernel
theorem dX0_addParts_45 : decode cX0_addParts 45 = .ok (.getfield 30, 3) := by decide +kernel
theorem dX0_addParts_48 : decode cX0_addParts 48 = .ok (.laload, 1) := by decide +kernel
theorem dX0_addParts_49 : decode cX0_addParts 49 = .ok (.invokevirtual 114, 3) := by decide +kernel
theorem dX0_addParts_52 : decode cX0_addParts 52 = .ok (.iinc 2 1, 3) := by decide +kernel
theorem dX0_addParts_55 : decode cX0_addParts 55 = .ok (.goto (-36), 3) := by decide +kernel
theorem dX0_addParts_58 : decode cX0_addParts 58 = .ok (.return_, 1) := by decide +kernel
theorem dX0_addPart_0 : decode cX0_addPart 0 = .ok (.iload_n 1, 1) := by decide +kernel
theorem dX0_addPart_1 : decode cX0_addPart 1 = .ok (.ifCond .lt 19, 3) := by decide +kernel
theorem dX0_addPart_4 : decode cX0_addPart 4 = .ok (.iload_n 1, 1) := by decide +kernel
theorem dX0_addPart_5 : decode cX0_addPart 5 = .ok (.bipush 60, 2) := by decide +kernel
theorem dX0_addPart_7 : decode cX0_addPart 7 = .ok (.if_icmp .ge 13, 3) := by decide +kernel
theorem dX0_addPart_10 : decode cX0_addPart 10 = .ok (.aload_n 0, 1) := by decide +kernel
theorem dX0_addPart_11 : decode cX0_addPart 11 = .ok (.getfield 26, 3) := by decide +kernel
theorem dX0_addPart_14 : decode cX0_addPart 14 = .ok (.iload_n 1, 1) := by decide +kernel
theorem dX0_addPart_15 : decode cX0_addPart 15 = .ok (.dup2, 1) := by decide +kernel
theorem dX0_addPart_16 : decode cX0_addPart 16 = .ok (.laload, 1) := by decide +kernel
theorem dX0_addPart_17 : decode cX0_addPart 17 = .ok (.lload_n 2, 1) := by decide +kernel
theorem dX0_addPart_18 : decode cX0_addPart 18 = .ok (.ladd, 1) := by decide +kernel
theorem dX0_addPart_19 : decode cX0_addPart 19 = .ok (.lastore, 1) := by decide +kernel
theorem dX0_addPart_20 : decode cX0_addPart 20 = .ok (.return_, 1) := by decide +kernel
theorem dX1_init_0 : decode cX1_init 0 = .ok (.aload_n 0, 1) := by decide +kernel
theorem dX1_init_1 : decode cX1_init 1 = .ok (.invokespecial 3, 3) := by decide +kernel
theorem dX1_init_4 : decode cX1_init 4 = .ok (.aload_n 0, 1) := by decide +kernel
theorem dX1_init_5 : decode cX1_init 5 = .ok (.iconst 4, 1) := by decide +kernel
theorem dX1_init_6 : decode cX1_init 6 = .ok (.newarray .int, 2) := by decide +kernel
theorem dX1_init_8 : decode cX1_init 8 = .ok (.putfield 9, 3) := by decide +kernel
theorem dX1_init_11 : decode cX1_init 11 = .ok (.aload_n 0, 1) := by decide +kernel
theorem dX1_init_12 : decode cX1_init 12 = .ok (.iconst 0, 1) := by decide +kernel
theorem dX1_init_13 : decode cX1_init 13 = .ok (.putfield 15, 3) := by decide +kernel
theorem dX1_init_16 : decode cX1_init 16 = .ok (.return_, 1) := by decide +kernel
theorem dX1_cellOf_0 : decode cX1_cellOf 0 = .ok (.iload_n 0, 1) := by decide +kernel
theorem dX1_cellOf_1 : decode cX1_cellOf 1 = .ok (.bipush 8, 2) := by decide +kernel
theorem dX1_cellOf_3 : decode cX1_cellOf 3 = .ok (.idiv, 1) := by decide +kernel
theorem dX1_cellOf_4 : decode cX1_cellOf 4 = .ok (.ireturn, 1) := by decide +kernel
theorem dX1_kindOf_0 : decode cX1_kindOf 0 = .ok (.iload_n 0, 1) := by decide +kernel
theorem dX1_kindOf_1 : decode cX1_kindOf 1 = .ok (.bipush 8, 2) := by decide +kernel
theorem dX1_kindOf_3 : decode cX1_kindOf 3 = .ok (.irem, 1) := by decide +kernel
theorem dX1_kindOf_4 : decode cX1_kindOf 4 = .ok (.ireturn, 1) := by decide +kernel
set_option maxRecDepth 20000 in
theorem ggX1_rememberKind_X1_remember : GoodIn wsX1_rememberKind wsX1_remember := goodIn_r _ [5, 6, 7, 8, 9, 10, 11, 12, 13] (by decide +kernel) (by decide +kernel)
set_option maxRecDepth 20000 in
theorem gX1_rememberKind_X1_remember : GoodIn wsX1_rememberKind (wsV RX1 19 RX1 yX1_remember wsX1_remember) := goodIn_app (goodIn_of _ (by decide +kernel)) ggX1_rememberKind_X1_remember
theorem dX1_rememberKind_0 : decode cX1_rememberKind 0 = .ok (.aload_n 0, 1) := by decide +kernel
theorem dX1_rememberKind_1 : decode cX1_rememberKind 1 = .ok (.iload_n 1, 1) := by decide +kernel
theorem dX1_rememberKind_2 : decode cX1_rememberKind 2 = .ok (.bipush 8, 2) := by decide +kernel
theorem dX1_rememberKind_4 : decode cX1_rememberKind 4 = .ok (.imul, 1) := by decide +kernel
theorem dX1_rememberKind_5 : decode cX1_rememberKind 5 = .ok (.iload_n 2, 1) := by decide +kernel
theorem dX1_rememberKind_6 : decode cX1_rememberKind 6 = .ok (.iadd, 1) := by decide +kernel
theorem dX1_rememberKind_7 : decode cX1_rememberKind 7 = .ok (.invokevirtual 19, 3) := by decide +kernel
theorem dX1_rememberKind_10 : decode cX1_rememberKind 10 = .ok (.return_, 1) := by decide +kernel
set_option maxRecDepth 20000 in
theorem ggX1_rememberTurn_X1_remember : GoodIn wsX1_rememberTurn wsX1_remember := goodIn_r _ [5, 6, 7, 8, 9, 10, 11, 12, 13] (by decide +kernel) (by decide +kernel)
set_option maxRecDepth 20000 in
theorem gX1_rememberTurn_X1_remember : GoodIn wsX1_rememberTurn (wsV RX1 19 RX1 yX1_remember wsX1_remember) := goodIn_app (goodIn_of _ (by decide +kernel)) ggX1_rememberTurn_X1_remember
theorem dX1_rememberTurn_0 : decode cX1_rememberTurn 0 = .ok (.aload_n 0, 1) := by decide +kernel
theorem dX1_rememberTurn_1 : decode cX1_rememberTurn 1 = .ok (.iconst (-1), 1) := by decide +kernel
theorem dX1_rememberTurn_2 : decode cX1_rememberTurn 2 = .ok (.invokevirtual 19, 3) := by decide +kernel
theorem dX1_rememberTurn_5 : decode cX1_rememberTurn 5 = .ok (.return_, 1) := by decide +kernel
theorem dX1_remember_0 : decode cX1_remember 0 = .ok (.aload_n 0, 1) := by decide +kernel
theorem dX1_remember_1 : decode cX1_remember 1 = .ok (.getfield 15, 3) := by decide +kernel
theorem dX1_remember_4 : decode cX1_remember 4 = .ok (.iconst 4, 1) := by decide +kernel
theorem dX1_remember_5 : decode cX1_remember 5 = .ok (.if_icmp .lt 22, 3) := by decide +kernel
theorem dX1_remember_8 : decode cX1_remember 8 = .ok (.aload_n 0, 1) := by decide +kernel
theorem dX1_remember_9 : decode cX1_remember 9 = .ok (.getfield 9, 3) := by decide +kernel
theorem dX1_remember_12 : decode cX1_remember 12 = .ok (.iconst 1, 1) := by decide +kernel
theorem dX1_remember_13 : decode cX1_remember 13 = .ok (.aload_n 0, 1) := by decide +kernel
theorem dX1_remember_14 : decode cX1_remember 14 = .ok (.getfield 9, 3) := by decide +kernel
theorem dX1_remember_17 : decode cX1_remember 17 = .ok (.iconst 0, 1) := by decide +kernel
theorem dX1_remember_18 : decode cX1_remember 18 = .ok (.iconst 3, 1) := by decide +kernel
theorem dX1_remember_19 : decode cX1_remember 19 = .ok (.invokestatic 23, 3) := by decide +kernel
theorem dX1_remember_22 : decode cX1_remember 22 = .ok (.aload_n 0, 1) := by decide +kernel
theorem dX1_remember_23 : decode cX1_remember 23 = .ok (.iconst 3, 1) := by decide +kernel
theorem dX1_remember_24 : decode cX1_remember 24 = .ok (.putfield 15, 3) := by decide +kernel
theorem dX1_remember_27 : decode cX1_remember 27 = .ok (.aload_n 0, 1) := by decide +kernel
theorem dX1_remember_28 : decode cX1_remember 28 = .ok (.getfield 9, 3) := by decide +kernel
theorem dX1_remember_31 : decode cX1_remember 31 = .ok (.aload_n 0, 1) := by decide +kernel
theorem dX1_remember_32 : decode cX1_remember 32 = .ok (.getfield 15, 3) := by decide +kernel
theorem dX1_remember_35 : decode cX1_remember 35 = .ok (.iload_n 1, 1) := by decide +kernel
theorem dX1_remember_36 : decode cX1_remember 36 = .ok (.iastore, 1) := by decide +kernel
theorem dX1_remember_37 : decode cX1_remember 37 = .ok (.aload_n 0, 1) := by decide +kernel
theorem dX1_remember_38 : decode cX1_remember 38 = .ok (.dup, 1) := by decide +kernel
theorem dX1_remember_39 : decode cX1_remember 39 = .ok (.getfield 15, 3) := by decide +kernel
theorem dX1_remember_42 : decode cX1_remember 42 = .ok (.iconst 1, 1) := by decide +kernel
theorem dX1_remember_43 : decode cX1_remember 43 = .ok (.iadd, 1) := by decide +kernel
theorem dX1_remember_44 : decode cX1_remember 44 = .ok (.putfield 15, 3) := by decide +kernel
theorem dX1_remember_47 : decode cX1_remember 47 = .ok (.return_, 1) := by decide +kernel
theorem dX1_takeLatest_0 : decode cX1_takeLatest 0 = .ok (.aload_n 0, 1) := by decide +kernel
theorem dX1_takeLatest_1 : decode cX1_takeLatest 1 = .ok (.getfield 15, 3) := by decide +kernel
theorem dX1_takeLatest_4 : decode cX1_takeLatest 4 = .ok (.ifCond .gt 5, 3) := by decide +kernel
theorem dX1_takeLatest_7 : decode cX1_takeLatest 7 = .ok (.iconst (-1), 1) := by decide +kernel
theorem dX1_takeLatest_8 : decode cX1_takeLatest 8 = .ok (.ireturn, 1) := by decide +kernel
theorem dX1_takeLatest_9 : decode cX1_takeLatest 9 = .ok (.aload_n 0, 1) := by decide +kernel
theorem dX1_takeLatest_10 : decode cX1_takeLatest 10 = .ok (.dup, 1) := by decide +kernel
theorem dX1_takeLatest_11 : decode cX1_takeLatest 11 = .ok (.getfield 15, 3) := by decide +kernel
theorem dX1_takeLatest_14 : decode cX1_takeLatest 14 = .ok (.iconst 1, 1) := by decide +kernel
theorem dX1_takeLatest_15 : decode cX1_takeLatest 15 = .ok (.isub, 1) := by decide +kernel
theorem dX1_takeLatest_16 : decode cX1_takeLatest 16 = .ok (.putfield 15, 3) := by decide +kernel
theorem dX1_takeLatest_19 : decode cX1_takeLatest 19 = .ok (.aload_n 0, 1) := by decide +kernel
theorem dX1_takeLatest_20 : decode cX1_takeLatest 20 = .ok (.getfield 9, 3) := by decide +kernel
theorem dX1_takeLatest_23 : decode cX1_takeLatest 23 = .ok (.aload_n 0, 1) := by decide +kernel
theorem dX1_takeLatest_24 : decode cX1_takeLatest 24 = .ok (.getfield 15, 3) := by decide +kernel
theorem dX1_takeLatest_27 : decode cX1_takeLatest 27 = .ok (.iaload, 1) := by decide +kernel
theorem dX1_takeLatest_28 : decode cX1_takeLatest 28 = .ok (.ireturn, 1) := by decide +kernel
theorem dX1_forget_0 : decode cX1_forget 0 = .ok (.aload_n 0, 1) := by decide +kernel
theorem dX1_forget_1 : decode cX1_forget 1 = .ok (.iconst 0, 1) := by decide +kernel
theorem dX1_forget_2 : decode cX1_forget 2 = .ok (.putfield 15, 3) := by decide +kernel
theorem dX1_forget_5 : decode cX1_forget 5 = .ok (.return_, 1) := by decide +kernel
theorem dX2_init_0 : decode cX2_init 0 = .ok (.aload_n 0, 1) := by decide +kernel
theorem dX2_init_1 : decode cX2_init 1 = .ok (.invokespecial 3, 3) := by decide +kernel
theorem dX2_init_4 : decode cX2_init 4 = .ok (.aload_n 0, 1) := by decide +kernel
theorem dX2_init_5 : decode cX2_init 5 = .ok (.bipush 20, 2) := by decide +kernel
theorem dX2_init_7 : decode cX2_init 7 = .ok (.newarray .int, 2) := by decide +kernel
theorem dX2_init_9 : decode cX2_init 9 = .ok (.putfield 9, 3) := by decide +kernel
theorem dX2_init_12 : decode cX2_init 12 = .ok (.aload_n 0, 1) := by decide +kernel
theorem dX2_init_13 : decode cX2_init 13 = .ok (.iconst 4, 1) := by decide +kernel
theorem dX2_init_14 : decode cX2_init 14 = .ok (.putfield 15, 3) := by decide +kernel
theorem dX2_init_17 : decode cX2_init 17 = .ok (.aload_n 0, 1) := by decide +kernel
theorem dX2_init_18 : decode cX2_init 18 = .ok (.iconst 3, 1) := by decide +kernel
theorem dX2_init_19 : decode cX2_init 19 = .ok (.putfield 19, 3) := by decide +kernel
theorem dX2_init_22 : decode cX2_init 22 = .ok (.getstatic 22, 3) := by decide +kernel
theorem dX2_init_25 : decode cX2_init 25 = .ok (.iconst 0, 1) := by decide +kernel
theorem dX2_init_26 : decode cX2_init 26 = .ok (.aload_n 0, 1) := by decide +kernel
theorem dX2_init_27 : decode cX2_init 27 = .ok (.getfield 9, 3) := by decide +kernel
theorem dX2_init_30 : decode cX2_init 30 = .ok (.iconst 0, 1) := by decide +kernel
theorem dX2_init_31 : decode cX2_init 31 = .ok (.getstatic 22, 3) := by decide +kernel
theorem dX2_init_34 : decode cX2_init 34 = .ok (.arraylength, 1) := by decide +kernel
theorem dX2_init_35 : decode cX2_init 35 = .ok (.invokestatic 25, 3) := by decide +kernel
theorem dX2_init_38 : decode cX2_init 38 = .ok (.return_, 1) := by decide +kernel
theorem dX2_cells_0 : decode cX2_cells 0 = .ok (.aload_n 0, 1) := by decide +kernel
theorem dX2_cells_1 : decode cX2_cells 1 = .ok (.getfield 15, 3) := by decide +kernel
theorem dX2_cells_4 : decode cX2_cells 4 = .ok (.aload_n 0, 1) := by decide +kernel
theorem dX2_cells_5 : decode cX2_cells 5 = .ok (.getfield 19, 3) := by decide +kernel
theorem dX2_cells_8 : decode cX2_cells 8 = .ok (.imul, 1) := by decide +kernel
theorem dX2_cells_9 : decode cX2_cells 9 = .ok (.ireturn, 1) := by decide +kernel
theorem dX2_ports_0 : decode cX2_ports 0 = .ok (.iconst 2, 1) := by decide +kernel
theorem dX2_ports_1 : decode cX2_ports 1 = .ok (.aload_n 0, 1) := by decide +kernel
theorem dX2_ports_2 : decode cX2_ports 2 = .ok (.getfield 15, 3) := by decide +kernel
theorem dX2_ports_5 : decode cX2_ports 5 = .ok (.aload_n 0, 1) := by decide +kernel
theorem dX2_ports_6 : decode cX2_ports 6 = .ok (.getfield 19, 3) := by decide +kernel
theorem dX2_ports_9 : decode cX2_ports 9 = .ok (.iadd, 1) := by decide +kernel
theorem dX2_ports_10 : decode cX2_ports 10 = .ok (.imul, 1) := by decide +kernel
theorem dX2_ports_11 : decode cX2_ports 11 = .ok (.ireturn, 1) := by decide +kernel
set_option maxRecDepth 20000 in
theorem ggX2_hasPort_X2_ports : GoodIn wsX2_hasPort wsX2_ports := goodIn_r _ [5, 6, 7, 8, 9, 10] (by decide +kernel) (by decide +kernel)
set_option maxRecDepth 20000 in
theorem gX2_hasPort_X2_ports : GoodIn wsX2_hasPort (wsV RX2 31 RX2 yX2_ports wsX2_ports) := goodIn_app (goodIn_of _ (by decide +kernel)) ggX2_hasPort_X2_ports
theorem dX2_hasPort_0 : decode cX2_hasPort 0 = .ok (.iload_n 1, 1) := by decide +kernel
theorem dX2_hasPort_1 : decode cX2_hasPort 1 = .ok (.ifCond .lt 15, 3) := by decide +kernel
theorem dX2_hasPort_4 : decode cX2_hasPort 4 = .ok (.iload_n 1, 1) := by decide +kernel
theorem dX2_hasPort_5 : decode cX2_hasPort 5 = .ok (.aload_n 0, 1) := by decide +kernel
theorem dX2_hasPort_6 : decode cX2_hasPort 6 = .ok (.invokevirtual 31, 3) := by decide +kernel
theorem dX2_hasPort_9 : decode cX2_hasPort 9 = .ok (.if_icmp .ge 7, 3) := by decide +kernel
theorem dX2_hasPort_12 : decode cX2_hasPort 12 = .ok (.iconst 1, 1) := by decide +kernel
theorem dX2_hasPort_13 : decode cX2_hasPort 13 = .ok (.goto 4, 3) := by decide +kernel
theorem dX2_hasPort_16 : decode cX2_hasPort 16 = .ok (.iconst 0, 1) := by decide +kernel
theorem dX2_hasPort_17 : decode cX2_hasPort 17 = .ok (.ireturn, 1) := by decide +kernel
set_option maxRecDepth 20000 in
theorem ggX2_kindAt_X2_cells : GoodIn wsX2_kindAt wsX2_cells := goodIn_r _ [6, 7, 8, 9, 10, 11] (by decide +kernel) (by decide +kernel)
set_option maxRecDepth 20000 in
theorem gX2_kindAt_X2_cells : GoodIn wsX2_kindAt (wsV RX2 35 RX2 yX2_cells wsX2_cells) := goodIn_app (goodIn_of _ (by decide +kernel)) ggX2_kindAt_X2_cells
theorem dX2_kindAt_0 : decode cX2_kindAt 0 = .ok (.iload_n 1, 1) := by decide +kernel
theorem dX2_kindAt_1 : decode cX2_kindAt 1 = .ok (.ifCond .lt 26, 3) := by decide +kernel
theorem dX2_kindAt_4 : decode cX2_kindAt 4 = .ok (.iload_n 1, 1) := by decide +kernel
theorem dX2_kindAt_5 : decode cX2_kindAt 5 = .ok (.aload_n 0, 1) := by decide +kernel
theorem dX2_kindAt_6 : decode cX2_kindAt 6 = .ok (.invokevirtual 35, 3) := by decide +kernel
theorem dX2_kindAt_9 : decode cX2_kindAt 9 = .ok (.if_icmp .ge 18, 3) := by decide +kernel
theorem dX2_kindAt_12 : decode cX2_kindAt 12 = .ok (.iload_n 1, 1) := by decide +kernel
theorem dX2_kindAt_13 : decode cX2_kindAt 13 = .ok (.bipush 20, 2) := by decide +kernel
theorem dX2_kindAt_15 : decode cX2_kindAt 15 = .ok (.if_icmp .ge 12, 3) := by decide +kernel
theorem dX2_kindAt_18 : decode cX2_kindAt 18 = .ok (.aload_n 0, 1) := by decide +kernel
theorem dX2_kindAt_19 : decode cX2_kindAt 19 = .ok (.getfield 9, 3) := by decide +kernel
theorem dX2_kindAt_22 : decode cX2_kindAt 22 = .ok (.iload_n 1, 1) := by decide +kernel
theorem dX2_kindAt_23 : decode cX2_kindAt 23 = .ok (.iaload, 1) := by decide +kernel
theorem dX2_kindAt_24 : decode cX2_kindAt 24 = .ok (.goto 4, 3) := by decide +kernel
theorem dX2_kindAt_27 : decode cX2_kindAt 27 = .ok (.iconst (-1), 1) := by decide +kernel
theorem dX2_kindAt_28 : decode cX2_kindAt 28 = .ok (.ireturn, 1) := by decide +kernel
set_option maxRecDepth 20000 in
theorem ggX2_tell_X2_cells : GoodIn wsX2_tell wsX2_cells := goodIn_r _ [6, 7, 8, 9, 10, 11] (by decide +kernel) (by decide +kernel)
set_option maxRecDepth 20000 in
theorem gX2_tell_X2_cells : GoodIn wsX2_tell (wsV RX2 35 RX2 yX2_cells wsX2_cells) := goodIn_app (goodIn_of _ (by decide +kernel)) ggX2_tell_X2_cells
theorem dX2_tell_0 : decode cX2_tell 0 = .ok (.iload_n 1, 1) := by decide +kernel
theorem dX2_tell_1 : decode cX2_tell 1 = .ok (.ifCond .lt 24, 3) := by decide +kernel
theorem dX2_tell_4 : decode cX2_tell 4 = .ok (.iload_n 1, 1) := by decide +kernel
theorem dX2_tell_5 : decode cX2_tell 5 = .ok (.aload_n 0, 1) := by decide +kernel
theorem dX2_tell_6 : decode cX2_tell 6 = .ok (.invokevirtual 35, 3) := by decide +kernel
theorem dX2_tell_9 : decode cX2_tell 9 = .ok (.if_icmp .ge 16, 3) := by decide +kernel
theorem dX2_tell_12 : decode cX2_tell 12 = .ok (.iload_n 1, 1) := by decide +kernel
theorem dX2_tell_13 : decode cX2_tell 13 = .ok (.bipush 20, 2) := by decide +kernel
theorem dX2_tell_15 : decode cX2_tell 15 = .ok (.if_icmp .ge 10, 3) := by decide +kernel
theorem dX2_tell_18 : decode cX2_tell 18 = .ok (.aload_n 0, 1) := by decide +kernel
theorem dX2_tell_19 : decode cX2_tell 19 = .ok (.getfield 9, 3) := by decide +kernel
theorem dX2_tell_22 : decode cX2_tell 22 = .ok (.iload_n 1, 1) := by decide +kernel
theorem dX2_tell_23 : decode cX2_tell 23 = .ok (.iload_n 2, 1) := by decide +kernel
theorem dX2_tell_24 : decode cX2_tell 24 = .ok (.iastore, 1) := by decide +kernel
theorem dX2_tell_25 : decode cX2_tell 25 = .ok (.return_, 1) := by decide +kernel
set_option maxRecDepth 20000 in
theorem ggX2_countKinds_X2_cells : GoodIn wsX2_countKinds wsX2_cells := goodIn_r _ [5, 6, 7, 13, 14, 15] (by decide +kernel) (by decide +kernel)
set_option maxRecDepth 20000 in
theorem gX2_countKinds_X2_cells : GoodIn wsX2_countKinds (wsV RX2 35 RX2 yX2_cells wsX2_cells) := goodIn_app (goodIn_of _ (by decide +kernel)) ggX2_countKinds_X2_cells
set_option maxRecDepth 20000 in
theorem ggX2_countKinds_X2_kindAt : GoodIn wsX2_countKinds wsX2_kindAt := goodIn_r _ [11, 12, 1, 2, 3, 4, 5, 6, 7, 13, 14, 15] (by decide +kernel) (by decide +kernel)
set_option maxRecDepth 20000 in
theorem gX2_countKinds_X2_kindAt : GoodIn wsX2_countKinds (wsV RX2 38 RX2 yX2_kindAt wsX2_kindAt) := goodIn_app (goodIn_of _ (by decide +kernel)) ggX2_countKinds_X2_kindAt
theorem dX2_countKinds_0 : decode cX2_countKinds 0 = .ok (.iconst 0, 1) := by decide +kernel
theorem dX2_countKinds_1 : decode cX2_countKinds 1 = .ok (.istore_n 3, 1) := by decide +kernel
theorem dX2_countKinds_2 : decode cX2_countKinds 2 = .ok (.iconst 0, 1) := by decide +kernel
theorem dX2_countKinds_3 : decode cX2_countKinds 3 = .ok (.istore 4, 2) := by decide +kernel
theorem dX2_countKinds_5 : decode cX2_countKinds 5 = .ok (.iload 4, 2) := by decide +kernel
theorem dX2_countKinds_7 : decode cX2_countKinds 7 = .ok (.aload_n 0, 1) := by decide +kernel
theorem dX2_countKinds_8 : decode cX2_countKinds 8 = .ok (.invokevirtual 35, 3) := by decide +kernel
theorem dX2_countKinds_11 : decode cX2_countKinds 11 = .ok (.if_icmp .ge 32, 3) := by decide +kernel
theorem dX2_countKinds_14 : decode cX2_countKinds 14 = .ok (.aload_n 0, 1) := by decide +kernel
theorem dX2_countKinds_15 : decode cX2_countKinds 15 = .ok (.iload 4, 2) := by decide +kernel
theorem dX2_countKinds_17 : decode cX2_countKinds 17 = .ok (.invokevirtual 38, 3) := by decide +kernel
theorem dX2_countKinds_20 : decode cX2_countKinds 20 = .ok (.istore 5, 2) := by decide +kernel
theorem dX2_countKinds_22 : decode cX2_countKinds 22 = .ok (.iload 5, 2) := by decide +kernel
theorem dX2_countKinds_24 : decode cX2_countKinds 24 = .ok (.iload_n 1, 1) := by decide +kernel
theorem dX2_countKinds_25 : decode cX2_countKinds 25 = .ok (.if_icmp .lt 12, 3) := by decide +kernel
theorem dX2_countKinds_28 : decode cX2_countKinds 28 = .ok (.iload 5, 2) := by decide +kernel
theorem dX2_countKinds_30 : decode cX2_countKinds 30 = .ok (.iload_n 2, 1) := by decide +kernel
theorem dX2_countKinds_31 : decode cX2_countKinds 31 = .ok (.if_icmp .gt 6, 3) := by decide +kernel
theorem dX2_countKinds_34 : decode cX2_countKinds 34 = .ok (.iinc 3 1, 3) := by decide +kernel
theorem dX2_countKinds_37 : decode cX2_countKinds 37 = .ok (.iinc 4 1, 3) := by decide +kernel
theorem dX2_countKinds_40 : decode cX2_countKinds 40 = .ok (.goto (-35), 3) := by decide +kernel
theorem dX2_countKinds_43 : decode cX2_countKinds 43 = .ok (.iload_n 3, 1) := by decide +kernel
theorem dX2_countKinds_44 : decode cX2_countKinds 44 = .ok (.ireturn, 1) := by decide +kernel
set_option maxRecDepth 20000 in
theorem ggX2_isOverfull_X2_countKinds : GoodIn wsX2_isOverfull wsX2_countKinds := goodIn_r _ [5, 6, 7, 8, 4, 9, 10, 11, 12, 13, 14, 15, 16, 17, 18, 19] (by decide +kernel) (by decide +kernel)
set_option maxRecDepth 20000 in
theorem gX2_isOverfull_X2_countKinds : GoodIn wsX2_isOverfull (wsV RX2 42 RX2 yX2_countKinds wsX2_countKinds) := goodIn_app (goodIn_of _ (by decide +kernel)) ggX2_isOverfull_X2_countKinds
theorem dX2_isOverfull_0 : decode cX2_isOverfull 0 = .ok (.aload_n 0, 1) := by decide +kernel
theorem dX2_isOverfull_1 : decode cX2_isOverfull 1 = .ok (.iconst 3, 1) := by decide +kernel
theorem dX2_isOverfull_2 : decode cX2_isOverfull 2 = .ok (.iconst 4, 1) := by decide +kernel
theorem dX2_isOverfull_3 : decode cX2_isOverfull 3 = .ok (.invokevirtual 42, 3) := by decide +kernel
theorem dX2_isOverfull_6 : decode cX2_isOverfull 6 = .ok (.iconst 5, 1) := by decide +kernel
theorem dX2_isOverfull_7 : decode cX2_isOverfull 7 = .ok (.if_icmp .gt 15, 3) := by decide +kernel
theorem dX2_isOverfull_10 : decode cX2_isOverfull 10 = .ok (.aload_n 0, 1) := by decide +kernel
theorem dX2_isOverfull_11 : decode cX2_isOverfull 11 = .ok (.bipush 6, 2) := by decide +kernel
theorem dX2_isOverfull_13 : decode cX2_isOverfull 13 = .ok (.bipush 7, 2) := by decide +kernel
theorem dX2_isOverfull_15 : decode cX2_isOverfull 15 = .ok (.invokevirtual 42, 3) := by decide +kernel
theorem dX2_isOverfull_18 : decode cX2_isOverfull 18 = .ok (.iconst 4, 1) := by decide +kernel
theorem dX2_isOverfull_19 : decode cX2_isOverfull 19 = .ok (.if_icmp .le 7, 3) := by decide +kernel
theorem dX2_isOverfull_22 : decode cX2_isOverfull 22 = .ok (.iconst 1, 1) := by decide +kernel
theorem dX2_isOverfull_23 : decode cX2_isOverfull 23 = .ok (.goto 4, 3) := by decide +kernel
theorem dX2_isOverfull_26 : decode cX2_isOverfull 26 = .ok (.iconst 0, 1) := by decide +kernel
theorem dX2_isOverfull_27 : decode cX2_isOverfull 27 = .ok (.ireturn, 1) := by decide +kernel
set_option maxRecDepth 20000 in
theorem ggX2_doorCell_X2_cells : GoodIn wsX2_doorCell wsX2_cells := goodIn_r _ [5, 6, 7, 13, 14, 15] (by decide +kernel) (by decide +kernel)
set_option maxRecDepth 20000 in
theorem gX2_doorCell_X2_cells : GoodIn wsX2_doorCell (wsV RX2 35 RX2 yX2_cells wsX2_cells) := goodIn_app (goodIn_of _ (by decide +kernel)) ggX2_doorCell_X2_cells
set_option maxRecDepth 20000 in
theorem ggX2_doorCell_X2_kindAt : GoodIn wsX2_doorCell wsX2_kindAt := goodIn_r _ [11, 12, 1, 2, 3, 4, 5, 6, 7, 13, 14, 15] (by decide +kernel) (by decide +kernel)
set_option maxRecDepth 20000 in
theorem gX2_doorCell_X2_kindAt : GoodIn wsX2_doorCell (wsV RX2 38 RX2 yX2_kindAt wsX2_kindAt) := goodIn_app (goodIn_of _ (by decide +kernel)) ggX2_doorCell_X2_kindAt
theorem dX2_doorCell_0 : decode cX2_doorCell 0 = .ok (.iconst 0, 1) := by decide +kernel
theorem dX2_doorCell_1 : decode cX2_doorCell 1 = .ok (.istore_n 2, 1) := by decide +kernel
theorem dX2_doorCell_2 : decode cX2_doorCell 2 = .ok (.iconst 0, 1) := by decide +kernel
theorem dX2_doorCell_3 : decode cX2_doorCell 3 = .ok (.istore_n 3, 1) := by decide +kernel
theorem dX2_doorCell_4 : decode cX2_doorCell 4 = .ok (.iload_n 3, 1) := by decide +kernel
theorem dX2_doorCell_5 : decode cX2_doorCell 5 = .ok (.aload_n 0, 1) := by decide +kernel
theorem dX2_doorCell_6 : decode cX2_doorCell 6 = .ok (.invokevirtual 35, 3) := by decide +kernel
theorem dX2_doorCell_9 : decode cX2_doorCell 9 = .ok (.if_icmp .ge 29, 3) := by decide +kernel
theorem dX2_doorCell_12 : decode cX2_doorCell 12 = .ok (.aload_n 0, 1) := by decide +kernel
theorem dX2_doorCell_13 : decode cX2_doorCell 13 = .ok (.iload_n 3, 1) := by decide +kernel
theorem dX2_doorCell_14 : decode cX2_doorCell 14 = .ok (.invokevirtual 38, 3) := by decide +kernel
theorem dX2_doorCell_17 : decode cX2_doorCell 17 = .ok (.bipush 6, 2) := by decide +kernel
theorem dX2_doorCell_19 : decode cX2_doorCell 19 = .ok (.if_icmp .lt 13, 3) := by decide +kernel
theorem dX2_doorCell_22 : decode cX2_doorCell 22 = .ok (.iload_n 2, 1) := by decide +kernel
theorem dX2_doorCell_23 : decode cX2_doorCell 23 = .ok (.iload_n 1, 1) := by decide +kernel
theorem dX2_doorCell_24 : decode cX2_doorCell 24 = .ok (.if_icmp .ne 5, 3) := by decide +kernel
theorem dX2_doorCell_27 : decode cX2_doorCell 27 = .ok (.iload_n 3, 1) := by decide +kernel
theorem dX2_doorCell_28 : decode cX2_doorCell 28 = .ok (.ireturn, 1) := by decide +kernel
theorem dX2_doorCell_29 : decode cX2_doorCell 29 = .ok (.iinc 2 1, 3) := by decide +kernel
theorem dX2_doorCell_32 : decode cX2_doorCell 32 = .ok (.iinc 3 1, 3) := by decide +kernel
theorem dX2_doorCell_35 : decode cX2_doorCell 35 = .ok (.goto (-31), 3) := by decide +kernel
theorem dX2_doorCell_38 : decode cX2_doorCell 38 = .ok (.iconst (-1), 1) := by decide +kernel
theorem dX2_doorCell_39 : decode cX2_doorCell 39 = .ok (.ireturn, 1) := by decide +kernel
theorem dX2_portDirection_0 : decode cX2_portDirection 0 = .ok (.iload_n 1, 1) := by decide +kernel
theorem dX2_portDirection_1 : decode cX2_portDirection 1 = .ok (.aload_n 0, 1) := by decide +kernel
theorem dX2_portDirection_2 : decode cX2_portDirection 2 = .ok (.getfield 15, 3) := by decide +kernel
theorem dX2_portDirection_5 : decode cX2_portDirection 5 = .ok (.if_icmp .ge 5, 3) := by decide +kernel
theorem dX2_portDirection_8 : decode cX2_portDirection 8 = .ok (.iconst 2, 1) := by decide +kernel
theorem dX2_portDirection_9 : decode cX2_portDirection 9 = .ok (.ireturn, 1) := by decide +kernel
theorem dX2_portDirection_10 : decode cX2_portDirection 10 = .ok (.iload_n 1, 1) := by decide +kernel
theorem dX2_portDirection_11 : decode cX2_portDirection 11 = .ok (.aload_n 0, 1) := by decide +kernel
theorem dX2_portDirection_12 : decode cX2_portDirection 12 = .ok (.getfield 15, 3) := by decide +kernel
theorem dX2_portDirection_15 : decode cX2_portDirection 15 = .ok (.aload_n 0, 1) := by decide +kernel
theorem dX2_portDirection_16 : decode cX2_portDirection 16 = .ok (.getfield 19, 3) := by decide +kernel
theorem dX2_portDirection_19 : decode cX2_portDirection 19 = .ok (.iadd, 1) := by decide +kernel
theorem dX2_portDirection_20 : decode cX2_portDirection 20 = .ok (.if_icmp .ge 5, 3) := by decide +kernel
theorem dX2_portDirection_23 : decode cX2_portDirection 23 = .ok (.iconst 3, 1) := by decide +kernel
theorem dX2_portDirection_24 : decode cX2_portDirection 24 = .ok (.ireturn, 1) := by decide +kernel
theorem dX2_portDirection_25 : decode cX2_portDirection 25 = .ok (.iload_n 1, 1) := by decide +kernel
theorem dX2_portDirection_26 : decode cX2_portDirection 26 = .ok (.iconst 2, 1) := by decide +kernel
theorem dX2_portDirection_27 : decode cX2_portDirection 27 = .ok (.aload_n 0, 1) := by decide +kernel
theorem dX2_portDirection_28 : decode cX2_portDirection 28 = .ok (.getfield 15, 3) := by decide +kernel
theorem dX2_portDirection_31 : decode cX2_portDirection 31 = .ok (.imul, 1) := by decide +kernel
theorem dX2_portDirection_32 : decode cX2_portDirection 32 = .ok (.aload_n 0, 1) := by decide +kernel
theorem dX2_portDirection_33 : decode cX2_portDirection 33 = .ok (.getfield 19, 3) := by decide +kernel
theorem dX2_portDirection_36 : decode cX2_portDirection 36 = .ok (.iadd, 1) := by decide +kernel
theorem dX2_portDirection_37 : decode cX2_portDirection 37 = .ok (.if_icmp .ge 7, 3) := by decide +kernel
theorem dX2_portDirection_40 : decode cX2_portDirection 40 = .ok (.iconst 0, 1) := by decide +kernel
theorem dX2_portDirection_41 : decode cX2_portDirection 41 = .ok (.goto 4, 3) := by decide +kernel
theorem dX2_portDirection_44 : decode cX2_portDirection 44 = .ok (.iconst 1, 1) := by decide +kernel
theorem dX2_portDirection_45 : decode cX2_portDirection 45 = .ok (.ireturn, 1) := by decide +kernel
set_option maxRecDepth 20000 in
theorem ggX2_portCell_X2_portDirection : GoodIn wsX2_portCell wsX2_portDirection := goodIn_r _ [7, 1, 2, 8, 9, 10] (by decide +kernel) (by decide +kernel)
set_option maxRecDepth 20000 in
theorem gX2_portCell_X2_portDirection : GoodIn wsX2_portCell (wsV RX2 46 RX2 yX2_portDirection wsX2_portDirection) := goodIn_app (goodIn_of _ (by decide +kernel)) ggX2_portCell_X2_portDirection
theorem dX2_portCell_0 : decode cX2_portCell 0 = .ok (.aload_n 0, 1) := by decide +kernel
theorem dX2_portCell_1 : decode cX2_portCell 1 = .ok (.iload_n 1, 1) := by decide +kernel
theorem dX2_portCell_2 : decode cX2_portCell 2 = .ok (.invokevirtual 46, 3) := by decide +kernel
theorem dX2_portCell_5 : decode cX2_portCell 5 = .ok (.tableswitch 76 0 3 #[52, 76, 31, 33], 31) := by decide +kernel
theorem dX2_portCell_36 : decode cX2_portCell 36 = .ok (.iload_n 1, 1) := by decide +kernel
theorem dX2_portCell_37 : decode cX2_portCell 37 = .ok (.ireturn, 1) := by decide +kernel
theorem dX2_portCell_38 : decode cX2_portCell 38 = .ok (.iload_n 1, 1) := by decide +kernel
theorem dX2_portCell_39 : decode cX2_portCell 39 = .ok (.aload_n 0, 1) := by decide +kernel
theorem dX2_portCell_40 : decode cX2_portCell 40 = .ok (.getfield 15, 3) := by decide +kernel
theorem dX2_portCell_43 : decode cX2_portCell 43 = .ok (.isub, 1) := by decide +kernel
theorem dX2_portCell_44 : decode cX2_portCell 44 = .ok (.aload_n 0, 1) := by decide +kernel
theorem dX2_portCell_45 : decode cX2_portCell 45 = .ok (.getfield 15, 3) := by decide +kernel
theorem dX2_portCell_48 : decode cX2_portCell 48 = .ok (.imul, 1) := by decide +kernel
theorem dX2_portCell_49 : decode cX2_portCell 49 = .ok (.aload_n 0, 1) := by decide +kernel
theorem dX2_portCell_50 : decode cX2_portCell 50 = .ok (.getfield 15, 3) := by decide +kernel
theorem dX2_portCell_53 : decode cX2_portCell 53 = .ok (.iadd, 1) := by decide +kernel
theorem dX2_portCell_54 : decode cX2_portCell 54 = .ok (.iconst 1, 1) := by decide +kernel
theorem dX2_portCell_55 : decode cX2_portCell 55 = .ok (.isub, 1) := by decide +kernel
theorem dX2_portCell_56 : decode cX2_portCell 56 = .ok (.ireturn, 1) := by decide +kernel
theorem dX2_portCell_57 : decode cX2_portCell 57 = .ok (.aload_n 0, 1) := by decide +kernel
theorem dX2_portCell_58 : decode cX2_portCell 58 = .ok (.getfield 19, 3) := by decide +kernel
theorem dX2_portCell_61 : decode cX2_portCell 61 = .ok (.iconst 1, 1) := by decide +kernel
theorem dX2_portCell_62 : decode cX2_portCell 62 = .ok (.isub, 1) := by decide +kernel
theorem dX2_portCell_63 : decode cX2_portCell 63 = .ok (.aload_n 0, 1) := by decide +kernel
theorem dX2_portCell_64 : decode cX2_portCell 64 = .ok (.getfield 15, 3) := by decide +kernel
theorem dX2_portCell_67 : decode cX2_portCell 67 = .ok (.imul, 1) := by decide +kernel
theorem dX2_portCell_68 : decode cX2_portCell 68 = .ok (.iload_n 1, 1) := by decide +kernel
theorem dX2_portCell_69 : decode cX2_portCell 69 = .ok (.iadd, 1) := by decide +kernel
theorem dX2_portCell_70 : decode cX2_portCell 70 = .ok (.aload_n 0, 1) := by decide +kernel
theorem dX2_portCell_71 : decode cX2_portCell 71 = .ok (.getfield 15, 3) := by decide +kernel
theorem dX2_portCell_74 : decode cX2_portCell 74 = .ok (.isub, 1) := by decide +kernel
theorem dX2_portCell_75 : decode cX2_portCell 75 = .ok (.aload_n 0, 1) := by decide +kernel
theorem dX2_portCell_76 : decode cX2_portCell 76 = .ok (.getfield 19, 3) := by decide +kernel
theorem dX2_portCell_79 : decode cX2_portCell 79 = .ok (.isub, 1) := by decide +kernel
theorem dX2_portCell_80 : decode cX2_portCell 80 = .ok (.ireturn, 1) := by decide +kernel
theorem dX2_portCell_81 : decode cX2_portCell 81 = .ok (.iload_n 1, 1) := by decide +kernel
theorem dX2_portCell_82 : decode cX2_portCell 82 = .ok (.iconst 2, 1) := by decide +kernel
theorem dX2_portCell_83 : decode cX2_portCell 83 = .ok (.aload_n 0, 1) := by decide +kernel
theorem dX2_portCell_84 : decode cX2_portCell 84 = .ok (.getfield 15, 3) := by decide +kernel
theorem dX2_portCell_87 : decode cX2_portCell 87 = .ok (.imul, 1) := by decide +kernel
theorem dX2_portCell_88 : decode cX2_portCell 88 = .ok (.isub, 1) := by decide +kernel
theorem dX2_portCell_89 : decode cX2_portCell 89 = .ok (.aload_n 0, 1) := by decide +kernel
theorem dX2_portCell_90 : decode cX2_portCell 90 = .ok (.getfield 19, 3) := by decide +kernel
theorem dX2_portCell_93 : decode cX2_portCell 93 = .ok (.isub, 1) := by decide +kernel
theorem dX2_portCell_94 : decode cX2_portCell 94 = .ok (.aload_n 0, 1) := by decide +kernel
theorem dX2_portCell_95 : decode cX2_portCell 95 = .ok (.getfield 15, 3) := by decide +kernel
theorem dX2_portCell_98 : decode cX2_portCell 98 = .ok (.imul, 1) := by decide +kernel
theorem dX2_portCell_99 : decode cX2_portCell 99 = .ok (.ireturn, 1) := by decide +kernel
theorem dX2_beyond_0 : decode cX2_beyond 0 = .ok (.aload_n 0, 1) := by decide +kernel
theorem dX2_beyond_1 : decode cX2_beyond 1 = .ok (.getfield 15, 3) := by decide +kernel
theorem dX2_beyond_4 : decode cX2_beyond 4 = .ok (.ifCond .le 12, 3) := by decide +kernel
theorem dX2_beyond_7 : decode cX2_beyond 7 = .ok (.iload_n 1, 1) := by decide +kernel
theorem dX2_beyond_8 : decode cX2_beyond 8 = .ok (.aload_n 0, 1) := by decide +kernel
theorem dX2_beyond_9 : decode cX2_beyond 9 = .ok (.getfield 15, 3) := by decide +kernel
theorem dX2_beyond_12 : decode cX2_beyond 12 = .ok (.irem, 1) := by decide +kernel
theorem dX2_beyond_13 : decode cX2_beyond 13 = .ok (.goto 4, 3) := by decide +kernel
theorem dX2_beyond_16 : decode cX2_beyond 16 = .ok (.iconst 0, 1) := by decide +kernel
theorem dX2_beyond_17 : decode cX2_beyond 17 = .ok (.istore_n 3, 1) := by decide +kernel
theorem dX2_beyond_18 : decode cX2_beyond 18 = .ok (.aload_n 0, 1) := by decide +kernel
theorem dX2_beyond_19 : decode cX2_beyond 19 = .ok (.getfield 15, 3) := by decide +kernel
theorem dX2_beyond_22 : decode cX2_beyond 22 = .ok (.ifCond .le 12, 3) := by decide +kernel
theorem dX2_beyond_25 : decode cX2_beyond 25 = .ok (.iload_n 1, 1) := by decide +kernel
theorem dX2_beyond_26 : decode cX2_beyond 26 = .ok (.aload_n 0, 1) := by decide +kernel
theorem dX2_beyond_27 : decode cX2_beyond 27 = .ok (.getfield 15, 3) := by decide +kernel
theorem dX2_beyond_30 : decode cX2_beyond 30 = .ok (.idiv, 1) := by decide +kernel
theorem dX2_beyond_31 : decode cX2_beyond 31 = .ok (.goto 4, 3) := by decide +kernel
theorem dX2_beyond_34 : decode cX2_beyond 34 = .ok (.iconst 0, 1) := by decide +kernel
theorem dX2_beyond_35 : decode cX2_beyond 35 = .ok (.istore 4, 2) := by decide +kernel
theorem dX2_beyond_37 : decode cX2_beyond 37 = .ok (.iload_n 2, 1) := by decide +kernel
theorem dX2_beyond_38 : decode cX2_beyond 38 = .ok (.tableswitch 104 0 2 #[26, 44, 70], 26) := by decide +kernel
theorem dX2_beyond_64 : decode cX2_beyond 64 = .ok (.iload 4, 2) := by decide +kernel
theorem dX2_beyond_66 : decode cX2_beyond 66 = .ok (.ifCond .le 12, 3) := by decide +kernel
theorem dX2_beyond_69 : decode cX2_beyond 69 = .ok (.iload_n 1, 1) := by decide +kernel
theorem dX2_beyond_70 : decode cX2_beyond 70 = .ok (.aload_n 0, 1) := by decide +kernel
theorem dX2_beyond_71 : decode cX2_beyond 71 = .ok (.getfield 15, 3) := by decide +kernel
theorem dX2_beyond_74 : decode cX2_beyond 74 = .ok (.isub, 1) := by decide +kernel
theorem dX2_beyond_75 : decode cX2_beyond 75 = .ok (.goto 6, 3) := by decide +kernel
theorem dX2_beyond_78 : decode cX2_beyond 78 = .ok (.iload_n 3, 1) := by decide +kernel
theorem dX2_beyond_79 : decode cX2_beyond 79 = .ok (.iconst (-1), 1) := by decide +kernel
theorem dX2_beyond_80 : decode cX2_beyond 80 = .ok (.ixor, 1) := by decide +kernel
theorem dX2_beyond_81 : decode cX2_beyond 81 = .ok (.ireturn, 1) := by decide +kernel
theorem dX2_beyond_82 : decode cX2_beyond 82 = .ok (.iload_n 3, 1) := by decide +kernel
theorem dX2_beyond_83 : decode cX2_beyond 83 = .ok (.aload_n 0, 1) := by decide +kernel
theorem dX2_beyond_84 : decode cX2_beyond 84 = .ok (.getfield 15, 3) := by decide +kernel
theorem dX2_beyond_87 : decode cX2_beyond 87 = .ok (.iconst 1, 1) := by decide +kernel
theorem dX2_beyond_88 : decode cX2_beyond 88 = .ok (.isub, 1) := by decide +kernel
theorem dX2_beyond_89 : decode cX2_beyond 89 = .ok (.if_icmp .ge 9, 3) := by decide +kernel
theorem dX2_beyond_92 : decode cX2_beyond 92 = .ok (.iload_n 1, 1) := by decide +kernel
theorem dX2_beyond_93 : decode cX2_beyond 93 = .ok (.iconst 1, 1) := by decide +kernel
theorem dX2_beyond_94 : decode cX2_beyond 94 = .ok (.iadd, 1) := by decide +kernel
theorem dX2_beyond_95 : decode cX2_beyond 95 = .ok (.goto 12, 3) := by decide +kernel
theorem dX2_beyond_98 : decode cX2_beyond 98 = .ok (.aload_n 0, 1) := by decide +kernel
theorem dX2_beyond_99 : decode cX2_beyond 99 = .ok (.getfield 15, 3) := by decide +kernel
theorem dX2_beyond_102 : decode cX2_beyond 102 = .ok (.iload 4, 2) := by decide +kernel
theorem dX2_beyond_104 : decode cX2_beyond 104 = .ok (.iadd, 1) := by decide +kernel
theorem dX2_beyond_105 : decode cX2_beyond 105 = .ok (.iconst (-1), 1) := by decide +kernel
theorem dX2_beyond_106 : decode cX2_beyond 106 = .ok (.ixor, 1) := by decide +kernel
theorem dX2_beyond_107 : decode cX2_beyond 107 = .ok (.ireturn, 1) := by decide +kernel
theorem dX2_beyond_108 : decode cX2_beyond 108 = .ok (.iload 4, 2) := by decide +kernel
theorem dX2_beyond_110 : decode cX2_beyond 110 = .ok (.aload_n 0, 1) := by decide +kernel
theorem dX2_beyond_111 : decode cX2_beyond 111 = .ok (.getfield 19, 3) := by decide +kernel
theorem dX2_beyond_114 : decode cX2_beyond 114 = .ok (.iconst 1, 1) := by decide +kernel
theorem dX2_beyond_115 : decode cX2_beyond 115 = .ok (.isub, 1) := by decide +kernel
