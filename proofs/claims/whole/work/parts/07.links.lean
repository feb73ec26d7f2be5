/-! links, fields, small helps -/
abbrev vb (v : Int32) : Prop := narrow .boolean (.int v) = .int v
theorem sw_out {x : Int32} {lo hi : Int} (h : ∀ k : Int, lo ≤ k → k ≤ hi → ¬ x = Int32.ofInt k) : x.toInt < lo ∨ hi < x.toInt := by
  rcases Int.lt_or_le x.toInt lo with h1 | h1
  · exact Or.inl h1
  · rcases Int.lt_or_le hi x.toInt with h2 | h2
    · exact Or.inr h2
    · exact absurd (Int32.ofInt_toInt x).symm (h x.toInt h1 h2)
theorem hPt {D : va_G} {cl : List vw_C} {ws : va_W} {H : Heap} {t : State} (h : va_P D cl ws H) (e : t.heap = H) : va_P D cl ws t.heap := e ▸ h
theorem inX0 : ∀ w ∈ u_ws RX0 TX0 5, w ∈ GW := by
  have e : u_ws RX0 TX0 5 = [Cond.laysFinal "RoadThatSings$Acting" "RoadThatSings$Acting" "bodies" "[I", Cond.lays "RoadThatSings$Acting" "RoadThatSings$Acting" "ran" "I", Cond.lays "RoadThatSings$Acting" "RoadThatSings$Acting" "kind" "I", Cond.lays "RoadThatSings$Acting" "RoadThatSings$Acting" "stretchNumber" "I", Cond.lays "RoadThatSings$Acting" "RoadThatSings$Acting" "space" "I"] := rfl
  rw [e]
  exact List.forall_mem_cons.mpr ⟨q148, List.forall_mem_cons.mpr ⟨q150, List.forall_mem_cons.mpr ⟨q152, List.forall_mem_cons.mpr ⟨q154, List.forall_mem_cons.mpr ⟨q156, fun _ h => absurd h List.not_mem_nil⟩⟩⟩⟩⟩
theorem inX1 : ∀ w ∈ u_ws RX1 TX1 4, w ∈ GW := by
  have e : u_ws RX1 TX1 4 = [Cond.laysFinal "RoadThatSings$Cars" "RoadThatSings$Cars" "speeds" "[I", Cond.laysFinal "RoadThatSings$Cars" "RoadThatSings$Cars" "bases" "[I", Cond.laysFinal "RoadThatSings$Cars" "RoadThatSings$Cars" "shares" "[I", Cond.lays "RoadThatSings$Cars" "RoadThatSings$Cars" "carCount" "I"] := rfl
  rw [e]
  exact List.forall_mem_cons.mpr ⟨q65, List.forall_mem_cons.mpr ⟨q67, List.forall_mem_cons.mpr ⟨q69, List.forall_mem_cons.mpr ⟨q71, fun _ h => absurd h List.not_mem_nil⟩⟩⟩⟩
theorem inX2 : ∀ w ∈ u_ws RX2 TX2 4, w ∈ GW := by
  have e : u_ws RX2 TX2 4 = [Cond.laysFinal "RoadThatSings$Cutting" "RoadThatSings$Cutting" "spaces" "[I", Cond.laysFinal "RoadThatSings$Cutting" "RoadThatSings$Cutting" "offs" "[I", Cond.laysFinal "RoadThatSings$Cutting" "RoadThatSings$Cutting" "times" "[I", Cond.lays "RoadThatSings$Cutting" "RoadThatSings$Cutting" "noteCount" "I"] := rfl
  rw [e]
  exact List.forall_mem_cons.mpr ⟨q128, List.forall_mem_cons.mpr ⟨q130, List.forall_mem_cons.mpr ⟨q132, List.forall_mem_cons.mpr ⟨q134, fun _ h => absurd h List.not_mem_nil⟩⟩⟩⟩
theorem inX4 : ∀ w ∈ u_ws RX4 TX4 4, w ∈ GW := by
  have e : u_ws RX4 TX4 4 = [Cond.laysFinal "RoadThatSings$Reader" "RoadThatSings$Reader" "text" "LRoadThatSings$Shelf;", Cond.laysFinal "RoadThatSings$Reader" "RoadThatSings$Reader" "told" "LRoadThatSings$Road;", Cond.lays "RoadThatSings$Reader" "RoadThatSings$Reader" "at" "I", Cond.lays "RoadThatSings$Reader" "RoadThatSings$Reader" "faultAt" "I"] := rfl
  rw [e]
  exact List.forall_mem_cons.mpr ⟨q578, List.forall_mem_cons.mpr ⟨q580, List.forall_mem_cons.mpr ⟨q582, List.forall_mem_cons.mpr ⟨q584, fun _ h => absurd h List.not_mem_nil⟩⟩⟩⟩
theorem inX5 : ∀ w ∈ u_ws RX5 TX5 5, w ∈ GW := by
  have e : u_ws RX5 TX5 5 = [Cond.laysFinal "RoadThatSings$Road" "RoadThatSings$Road" "stretches" "LRoadThatSings$Stretches;", Cond.laysFinal "RoadThatSings$Road" "RoadThatSings$Road" "cars" "LRoadThatSings$Cars;", Cond.laysFinal "RoadThatSings$Road" "RoadThatSings$Road" "tunes" "LRoadThatSings$Tunes;", Cond.laysFinal "RoadThatSings$Road" "RoadThatSings$Road" "demands" "[I", Cond.lays "RoadThatSings$Road" "RoadThatSings$Road" "drawSeed" "I"] := rfl
  rw [e]
  exact List.forall_mem_cons.mpr ⟨q105, List.forall_mem_cons.mpr ⟨q107, List.forall_mem_cons.mpr ⟨q109, List.forall_mem_cons.mpr ⟨q111, List.forall_mem_cons.mpr ⟨q113, fun _ h => absurd h List.not_mem_nil⟩⟩⟩⟩⟩
theorem inX6 : ∀ w ∈ u_ws RX6 TX6 5, w ∈ GW := by
  have e : u_ws RX6 TX6 5 = [Cond.laysFinal "RoadThatSings$Shelf" "RoadThatSings$Shelf" "elements" "[J", Cond.lays "RoadThatSings$Shelf" "RoadThatSings$Shelf" "held" "I", Cond.lays "RoadThatSings$Shelf" "RoadThatSings$Shelf" "sort" "I", Cond.lays "RoadThatSings$Shelf" "RoadThatSings$Shelf" "elementCount" "I", Cond.lays "RoadThatSings$Shelf" "RoadThatSings$Shelf" "stretchNumber" "I"] := rfl
  rw [e]
  exact List.forall_mem_cons.mpr ⟨q169, List.forall_mem_cons.mpr ⟨q171, List.forall_mem_cons.mpr ⟨q173, List.forall_mem_cons.mpr ⟨q175, List.forall_mem_cons.mpr ⟨q177, fun _ h => absurd h List.not_mem_nil⟩⟩⟩⟩⟩
theorem inX7 : ∀ w ∈ u_ws RX7 TX7 5, w ∈ GW := by
  have e : u_ws RX7 TX7 5 = [Cond.laysFinal "RoadThatSings$Stretches" "RoadThatSings$Stretches" "kinds" "[I", Cond.laysFinal "RoadThatSings$Stretches" "RoadThatSings$Stretches" "spaces" "[I", Cond.laysFinal "RoadThatSings$Stretches" "RoadThatSings$Stretches" "others" "[I", Cond.laysFinal "RoadThatSings$Stretches" "RoadThatSings$Stretches" "times" "[I", Cond.lays "RoadThatSings$Stretches" "RoadThatSings$Stretches" "stretchCount" "I"] := rfl
  rw [e]
  exact List.forall_mem_cons.mpr ⟨q43, List.forall_mem_cons.mpr ⟨q45, List.forall_mem_cons.mpr ⟨q47, List.forall_mem_cons.mpr ⟨q49, List.forall_mem_cons.mpr ⟨q51, fun _ h => absurd h List.not_mem_nil⟩⟩⟩⟩⟩
theorem inX8 : ∀ w ∈ u_ws RX8 TX8 4, w ∈ GW := by
  have e : u_ws RX8 TX8 4 = [Cond.laysFinal "RoadThatSings$Tunes" "RoadThatSings$Tunes" "pitches" "[I", Cond.laysFinal "RoadThatSings$Tunes" "RoadThatSings$Tunes" "beats" "[I", Cond.laysFinal "RoadThatSings$Tunes" "RoadThatSings$Tunes" "noteCounts" "[I", Cond.lays "RoadThatSings$Tunes" "RoadThatSings$Tunes" "tuneCount" "I"] := rfl
  rw [e]
  exact List.forall_mem_cons.mpr ⟨q84, List.forall_mem_cons.mpr ⟨q86, List.forall_mem_cons.mpr ⟨q88, List.forall_mem_cons.mpr ⟨q90, fun _ h => absurd h List.not_mem_nil⟩⟩⟩⟩
theorem inX9 : ∀ w ∈ u_ws RX9 TX9 9, w ∈ GW := by
  have e : u_ws RX9 TX9 9 = [Cond.laysFinal "RoadThatSings" "RoadThatSings" "road" "LRoadThatSings$Road;", Cond.laysFinal "RoadThatSings" "RoadThatSings" "kept" "LRoadThatSings$Road;", Cond.laysFinal "RoadThatSings" "RoadThatSings" "ahead" "LRoadThatSings$Road;", Cond.laysFinal "RoadThatSings" "RoadThatSings" "shelves" "[LRoadThatSings$Shelf;", Cond.laysFinal "RoadThatSings" "RoadThatSings" "cutting" "LRoadThatSings$Cutting;", Cond.laysFinal "RoadThatSings" "RoadThatSings" "acting" "LRoadThatSings$Acting;", Cond.laysFinal "RoadThatSings" "RoadThatSings" "refused" "[I", Cond.lays "RoadThatSings" "RoadThatSings" "imaged" "Z", Cond.lays "RoadThatSings" "RoadThatSings" "lastFault" "I"] := rfl
  rw [e]
  exact List.forall_mem_cons.mpr ⟨q190, List.forall_mem_cons.mpr ⟨q192, List.forall_mem_cons.mpr ⟨q194, List.forall_mem_cons.mpr ⟨q196, List.forall_mem_cons.mpr ⟨q198, List.forall_mem_cons.mpr ⟨q200, List.forall_mem_cons.mpr ⟨q202, List.forall_mem_cons.mpr ⟨q204, List.forall_mem_cons.mpr ⟨q206, fun _ h => absurd h List.not_mem_nil⟩⟩⟩⟩⟩⟩⟩⟩⟩
theorem inX10 : ∀ w ∈ u_ws RX10 TX10 43, w ∈ GW := by
  have e : u_ws RX10 TX10 43 = [Cond.lays "RoadThatSingsModel" "RoadThatSingsModel" "stretches" "I", Cond.lays "RoadThatSingsModel" "RoadThatSingsModel" "cars" "I", Cond.lays "RoadThatSingsModel" "RoadThatSingsModel" "tunes" "I", Cond.lays "RoadThatSingsModel" "RoadThatSingsModel" "along" "I", Cond.lays "RoadThatSingsModel" "RoadThatSingsModel" "near" "I", Cond.lays "RoadThatSingsModel" "RoadThatSingsModel" "borne" "I", Cond.lays "RoadThatSingsModel" "RoadThatSingsModel" "tempo" "I", Cond.lays "RoadThatSingsModel" "RoadThatSingsModel" "seed" "I", Cond.lays "RoadThatSingsModel" "RoadThatSingsModel" "fault" "I", Cond.laysFinal "RoadThatSingsModel" "RoadThatSingsModel" "refused" "[I", Cond.laysFinal "RoadThatSingsModel" "RoadThatSingsModel" "steps" "[I", Cond.laysFinal "RoadThatSingsModel" "RoadThatSingsModel" "kind" "[I", Cond.laysFinal "RoadThatSingsModel" "RoadThatSingsModel" "space" "[I", Cond.laysFinal "RoadThatSingsModel" "RoadThatSingsModel" "other" "[I", Cond.laysFinal "RoadThatSingsModel" "RoadThatSingsModel" "times" "[I", Cond.laysFinal "RoadThatSingsModel" "RoadThatSingsModel" "speed" "[I", Cond.laysFinal "RoadThatSingsModel" "RoadThatSingsModel" "base" "[I", Cond.laysFinal "RoadThatSingsModel" "RoadThatSingsModel" "share" "[I", Cond.laysFinal "RoadThatSingsModel" "RoadThatSingsModel" "notes" "[I", Cond.laysFinal "RoadThatSingsModel" "RoadThatSingsModel" "pitch" "[I", Cond.laysFinal "RoadThatSingsModel" "RoadThatSingsModel" "beats" "[I", Cond.laysFinal "RoadThatSingsModel" "RoadThatSingsModel" "held" "[I", Cond.laysFinal "RoadThatSingsModel" "RoadThatSingsModel" "sort" "[I", Cond.laysFinal "RoadThatSingsModel" "RoadThatSingsModel" "size" "[I", Cond.laysFinal "RoadThatSingsModel" "RoadThatSingsModel" "shown" "[I", Cond.laysFinal "RoadThatSingsModel" "RoadThatSingsModel" "cells" "[J", Cond.laysFinal "RoadThatSingsModel" "RoadThatSingsModel" "carried" "[J", Cond.laysFinal "RoadThatSingsModel" "RoadThatSingsModel" "words" "[I", Cond.laysFinal "RoadThatSingsModel" "RoadThatSingsModel" "tell" "[I", Cond.lays "RoadThatSingsModel" "RoadThatSingsModel" "from" "I", Cond.lays "RoadThatSingsModel" "RoadThatSingsModel" "at" "I", Cond.lays "RoadThatSingsModel" "RoadThatSingsModel" "end" "I", Cond.lays "RoadThatSingsModel" "RoadThatSingsModel" "told" "I", Cond.lays "RoadThatSingsModel" "RoadThatSingsModel" "wrongAt" "I", Cond.laysFinal "RoadThatSingsModel" "RoadThatSingsModel" "was" "[I", Cond.laysFinal "RoadThatSingsModel" "RoadThatSingsModel" "kept" "[I", Cond.lays "RoadThatSingsModel" "RoadThatSingsModel" "culprit" "I", Cond.laysFinal "RoadThatSingsModel" "RoadThatSingsModel" "cutSpace" "[I", Cond.laysFinal "RoadThatSingsModel" "RoadThatSingsModel" "cutTimes" "[I", Cond.laysFinal "RoadThatSingsModel" "RoadThatSingsModel" "cutOff" "[I", Cond.laysFinal "RoadThatSingsModel" "RoadThatSingsModel" "trace" "[I", Cond.lays "RoadThatSingsModel" "RoadThatSingsModel" "ran" "I", Cond.lays "RoadThatSingsModel" "RoadThatSingsModel" "isKept" "Z"] := rfl
  rw [e]
  exact List.forall_mem_cons.mpr ⟨q1136, List.forall_mem_cons.mpr ⟨q1138, List.forall_mem_cons.mpr ⟨q1140, List.forall_mem_cons.mpr ⟨q1142, List.forall_mem_cons.mpr ⟨q1144, List.forall_mem_cons.mpr ⟨q1146, List.forall_mem_cons.mpr ⟨q1148, List.forall_mem_cons.mpr ⟨q1150, List.forall_mem_cons.mpr ⟨q1152, List.forall_mem_cons.mpr ⟨q1154, List.forall_mem_cons.mpr ⟨q1156, List.forall_mem_cons.mpr ⟨q1158, List.forall_mem_cons.mpr ⟨q1160, List.forall_mem_cons.mpr ⟨q1162, List.forall_mem_cons.mpr ⟨q1164, List.forall_mem_cons.mpr ⟨q1166, List.forall_mem_cons.mpr ⟨q1168, List.forall_mem_cons.mpr ⟨q1170, List.forall_mem_cons.mpr ⟨q1172, List.forall_mem_cons.mpr ⟨q1174, List.forall_mem_cons.mpr ⟨q1176, List.forall_mem_cons.mpr ⟨q1178, List.forall_mem_cons.mpr ⟨q1180, List.forall_mem_cons.mpr ⟨q1182, List.forall_mem_cons.mpr ⟨q1184, List.forall_mem_cons.mpr ⟨q1186, List.forall_mem_cons.mpr ⟨q1188, List.forall_mem_cons.mpr ⟨q1190, List.forall_mem_cons.mpr ⟨q1192, List.forall_mem_cons.mpr ⟨q1194, List.forall_mem_cons.mpr ⟨q1196, List.forall_mem_cons.mpr ⟨q1198, List.forall_mem_cons.mpr ⟨q1200, List.forall_mem_cons.mpr ⟨q1202, List.forall_mem_cons.mpr ⟨q1204, List.forall_mem_cons.mpr ⟨q1206, List.forall_mem_cons.mpr ⟨q1208, List.forall_mem_cons.mpr ⟨q1210, List.forall_mem_cons.mpr ⟨q1212, List.forall_mem_cons.mpr ⟨q1214, List.forall_mem_cons.mpr ⟨q1216, List.forall_mem_cons.mpr ⟨q1218, List.forall_mem_cons.mpr ⟨q1220, fun _ h => absurd h List.not_mem_nil⟩⟩⟩⟩⟩⟩⟩⟩⟩⟩⟩⟩⟩⟩⟩⟩⟩⟩⟩⟩⟩⟩⟩⟩⟩⟩⟩⟩⟩⟩⟩⟩⟩⟩⟩⟩⟩⟩⟩⟩⟩⟩⟩
theorem nfX9_106 : ("RoadThatSings", 106, "RoadThatSings$Road", "stretches", "LRoadThatSings$Stretches;", "RoadThatSings") ∈ NWF := List.mem_of_getElem? (i := 0) rfl
theorem nfX4_104 : ("RoadThatSings$Reader", 104, "RoadThatSings$Road", "stretches", "LRoadThatSings$Stretches;", "RoadThatSings") ∈ NWF := List.mem_of_getElem? (i := 1) rfl
theorem nfX4_113 : ("RoadThatSings$Reader", 113, "RoadThatSings$Road", "cars", "LRoadThatSings$Cars;", "RoadThatSings") ∈ NWF := List.mem_of_getElem? (i := 2) rfl
theorem nfX9_180 : ("RoadThatSings", 180, "RoadThatSings$Road", "cars", "LRoadThatSings$Cars;", "RoadThatSings") ∈ NWF := List.mem_of_getElem? (i := 3) rfl
theorem nfX4_63 : ("RoadThatSings$Reader", 63, "RoadThatSings$Road", "tunes", "LRoadThatSings$Tunes;", "RoadThatSings") ∈ NWF := List.mem_of_getElem? (i := 4) rfl
theorem nfX2_36 : ("RoadThatSings$Cutting", 36, "RoadThatSings$Road", "tunes", "LRoadThatSings$Tunes;", "RoadThatSings") ∈ NWF := List.mem_of_getElem? (i := 5) rfl
theorem nfX9_209 : ("RoadThatSings", 209, "RoadThatSings$Road", "tunes", "LRoadThatSings$Tunes;", "RoadThatSings") ∈ NWF := List.mem_of_getElem? (i := 6) rfl
theorem nfX4_83 : ("RoadThatSings$Reader", 83, "RoadThatSings", "ITEMS", "[LRoadThatSings$Item;", "RoadThatSings") ∈ NWF := List.mem_of_getElem? (i := 7) rfl
theorem nfX4_149 : ("RoadThatSings$Reader", 149, "RoadThatSings", "LEAST_ASKED", "[I", "RoadThatSings") ∈ NWF := List.mem_of_getElem? (i := 8) rfl
theorem nfX4_153 : ("RoadThatSings$Reader", 153, "RoadThatSings", "MOST_ASKED", "[I", "RoadThatSings") ∈ NWF := List.mem_of_getElem? (i := 9) rfl
theorem nfX0_32 : ("RoadThatSings$Acting", 32, "RoadThatSings", "HUMS_BODIES", "[I", "RoadThatSings") ∈ NWF := List.mem_of_getElem? (i := 10) rfl
theorem nfX0_35 : ("RoadThatSings$Acting", 35, "RoadThatSings", "LASTS_BODIES", "[I", "RoadThatSings") ∈ NWF := List.mem_of_getElem? (i := 11) rfl
theorem nfX0_38 : ("RoadThatSings$Acting", 38, "RoadThatSings", "WEARS_BODIES", "[I", "RoadThatSings") ∈ NWF := List.mem_of_getElem? (i := 12) rfl
theorem nfX4_87 : ("RoadThatSings$Reader", 87, "RoadThatSings$Item", "word", "Ljava/lang/String;", "RoadThatSings") ∈ NWF := List.mem_of_getElem? (i := 13) rfl
theorem nfX4_52 : ("RoadThatSings$Reader", 52, "RoadThatSings$Item", "form", "I", "RoadThatSings") ∈ NWF := List.mem_of_getElem? (i := 14) rfl
theorem nfX4_77 : ("RoadThatSings$Reader", 77, "RoadThatSings$Item", "number", "I", "RoadThatSings") ∈ NWF := List.mem_of_getElem? (i := 15) rfl
theorem stm_KIND_ABOVE : ("KIND_ABOVE", tbKIND_ABOVE) ∈ STL := List.mem_of_getElem? (i := 0) rfl
theorem stm_LEAST_ASKED : ("LEAST_ASKED", tbLEAST_ASKED) ∈ STL := List.mem_of_getElem? (i := 1) rfl
theorem stm_MOST_ASKED : ("MOST_ASKED", tbMOST_ASKED) ∈ STL := List.mem_of_getElem? (i := 2) rfl
theorem stm_HUMS_BODIES : ("HUMS_BODIES", tbHUMS_BODIES) ∈ STL := List.mem_of_getElem? (i := 3) rfl
theorem stm_LASTS_BODIES : ("LASTS_BODIES", tbLASTS_BODIES) ∈ STL := List.mem_of_getElem? (i := 4) rfl
theorem stm_WEARS_BODIES : ("WEARS_BODIES", tbWEARS_BODIES) ∈ STL := List.mem_of_getElem? (i := 5) rfl
theorem stm_STEPS : ("STEPS", tbSTEPS) ∈ STL := List.mem_of_getElem? (i := 6) rfl
theorem lkX0_28 : LKN "RoadThatSings$Acting" 28 yX9_within "RoadThatSings" cX9_within 3 (some (.boolean)) 3 := ⟨⟨List.mem_of_getElem? (i := 17) rfl, q218, q1, q219⟩, by decide +kernel⟩
theorem lkX9_63 : LKS "RoadThatSings" 63 yX9_within cX9_within 3 (some (.boolean)) 3 := ⟨⟨q217, q218, q1, q219⟩, by decide +kernel⟩
theorem lkX0_41 : LKS "RoadThatSings$Acting" 41 yX0_bodyOf cX0_bodyOf 2 (some (.int)) 2 := ⟨⟨q1047, q1048, q7, q1049⟩, by decide +kernel⟩
theorem lkX0_45 : LKN "RoadThatSings$Acting" 45 yX9_kindAbove "RoadThatSings" cX9_kindAbove 1 (some (.int)) 1 := ⟨⟨List.mem_of_getElem? (i := 18) rfl, q340, q1, q341⟩, by decide +kernel⟩
theorem lkX0_49 : LKS "RoadThatSings$Acting" 49 yX0_kindWithBody cX0_kindWithBody 4 (some (.int)) 2 := ⟨⟨q1044, q1045, q7, q1046⟩, by decide +kernel⟩
theorem lkX0_52 : LKV "RoadThatSings$Acting" 52 "RoadThatSings$Acting" yX0_mark cX0_mark 2 none 1 := ⟨⟨q1058, q1060, qs23, q7, q1061⟩, by decide +kernel⟩
theorem lkX0_56 : LKS "RoadThatSings$Acting" 56 yX0_play cX0_play 10 (some (.int)) 5 := ⟨⟨q1062, q1042, q7, q1043⟩, by decide +kernel⟩
theorem lkX1_31 : LKV "RoadThatSings$Cars" 31 "RoadThatSings$Cars" yX1_isFull cX1_isFull 1 (some (.boolean)) 0 := ⟨⟨q453, q446, q447, q4, q448⟩, by decide +kernel⟩
theorem lkX1_35 : LKV "RoadThatSings$Cars" 35 "RoadThatSings$Cars" yX1_has cX1_has 2 (some (.boolean)) 1 := ⟨⟨q441, q442, q443, q4, q444⟩, by decide +kernel⟩
theorem lkX1_39 : LKV "RoadThatSings$Cars" 39 "RoadThatSings$Cars" yX1_shareOf cX1_shareOf 2 (some (.int)) 1 := ⟨⟨q437, q438, q439, q4, q440⟩, by decide +kernel⟩
theorem lkX2_25 : LKV "RoadThatSings$Cutting" 25 "RoadThatSings$Cutting" yX2_has cX2_has 2 (some (.boolean)) 1 := ⟨⟨q865, q867, qs18, q6, q868⟩, by decide +kernel⟩
theorem lkX8_31 : LKV "RoadThatSings$Tunes" 31 "RoadThatSings$Tunes" yX8_has cX8_has 2 (some (.boolean)) 1 := ⟨⟨q492, q493, q494, q5, q495⟩, by decide +kernel⟩
theorem lkX8_43 : LKV "RoadThatSings$Tunes" 43 "RoadThatSings$Tunes" yX8_hasNote cX8_hasNote 3 (some (.boolean)) 2 := ⟨⟨q517, q502, q503, q5, q504⟩, by decide +kernel⟩
theorem lkX5_56 : LKN "RoadThatSings$Road" 56 yX9_within "RoadThatSings" cX9_within 3 (some (.boolean)) 3 := ⟨⟨List.mem_of_getElem? (i := 8) rfl, q218, q1, q219⟩, by decide +kernel⟩
theorem lkX9_354 : LKS "RoadThatSings" 354 yX9_quotient cX9_quotient 2 (some (.int)) 2 := ⟨⟨q723, q724, q1, q725⟩, by decide +kernel⟩
theorem lkX2_64 : LKN "RoadThatSings$Cutting" 64 yX9_humBy "RoadThatSings" cX9_humBy 2 (some (.int)) 2 := ⟨⟨List.mem_of_getElem? (i := 14) rfl, q721, q1, q722⟩, by decide +kernel⟩
theorem lkX2_67 : LKN "RoadThatSings$Cutting" 67 yX9_offBetween "RoadThatSings" cX9_offBetween 2 (some (.int)) 2 := ⟨⟨List.mem_of_getElem? (i := 15) rfl, q753, q1, q754⟩, by decide +kernel⟩
theorem lkX2_42 : LKV "RoadThatSings$Cutting" 42 "RoadThatSings$Tunes" yX8_notesOf cX8_notesOf 2 (some (.int)) 1 := ⟨⟨q838, q506, q507, q5, q508⟩, by decide +kernel⟩
theorem lkX2_54 : LKV "RoadThatSings$Cutting" 54 "RoadThatSings$Tunes" yX8_pitchOf cX8_pitchOf 3 (some (.int)) 2 := ⟨⟨q840, q519, q520, q5, q521⟩, by decide +kernel⟩
theorem lkX2_57 : LKV "RoadThatSings$Cutting" 57 "RoadThatSings$Road" yX5_asked cX5_asked 2 (some (.int)) 1 := ⟨⟨q841, q535, q536, q2, q537⟩, by decide +kernel⟩
theorem lkX2_60 : LKS "RoadThatSings$Cutting" 60 yX2_spaceFor cX2_spaceFor 8 (some (.int)) 3 := ⟨⟨q842, q843, q6, q844⟩, by decide +kernel⟩
theorem lkX2_70 : LKV "RoadThatSings$Cutting" 70 "RoadThatSings$Tunes" yX8_beatsOf cX8_beatsOf 3 (some (.int)) 2 := ⟨⟨q851, q514, q515, q5, q516⟩, by decide +kernel⟩
theorem lkX2_73 : LKS "RoadThatSings$Cutting" 73 yX2_placeOf cX2_placeOf 3 (some (.int)) 3 := ⟨⟨q852, q853, q6, q854⟩, by decide +kernel⟩
theorem lkX2_76 : LKS "RoadThatSings$Cutting" 76 yX2_nearestTimes cX2_nearestTimes 4 (some (.int)) 2 := ⟨⟨q857, q858, q6, q859⟩, by decide +kernel⟩
theorem lkX2_29 : LKV "RoadThatSings$Cutting" 29 "RoadThatSings$Cutting" yX2_chooseSpaces cX2_chooseSpaces 7 none 3 := ⟨⟨q834, q835, q836, q6, q837⟩, by decide +kernel⟩
theorem lkX2_33 : LKV "RoadThatSings$Cutting" 33 "RoadThatSings$Cutting" yX2_chooseTimes cX2_chooseTimes 8 none 3 := ⟨⟨q847, q849, qs17, q6, q850⟩, by decide +kernel⟩
theorem lkX2_86 : LKV "RoadThatSings$Cutting" 86 "RoadThatSings$Cutting" yX2_spaceOf cX2_spaceOf 2 (some (.int)) 1 := ⟨⟨q905, q862, q863, q6, q864⟩, by decide +kernel⟩
theorem lkX2_89 : LKV "RoadThatSings$Cutting" 89 "RoadThatSings$Cutting" yX2_timesOf cX2_timesOf 2 (some (.int)) 1 := ⟨⟨q906, q870, q871, q6, q872⟩, by decide +kernel⟩
theorem lkX2_92 : LKV "RoadThatSings$Cutting" 92 "RoadThatSings$Cutting" yX2_offOf cX2_offOf 2 (some (.int)) 1 := ⟨⟨q911, q874, q875, q6, q876⟩, by decide +kernel⟩
theorem lkJ0_335 : LKV "java/lang/String" 335 "java/lang/String" yJ0_coder_7d493 cJ0_coder_7d493 1 (some (.byte)) 0 := ⟨⟨q609, q610, q611, q14, q612⟩, by decide +kernel⟩
theorem lkX6_50 : LKV "RoadThatSings$Shelf" 50 "RoadThatSings$Shelf" yX6_hasElement cX6_hasElement 2 (some (.boolean)) 1 := ⟨⟨q264, q257, q258, q8, q259⟩, by decide +kernel⟩
theorem lkJ0_1059 : LKS "java/lang/String" 1059 yJ3_checkIndex_8e157 cJ3_checkIndex_8e157 3 (some (.int)) 3 := ⟨⟨q633, q634, q16, q635⟩, by decide +kernel⟩
theorem lkJ1_9 : LKS "java/lang/StringLatin1" 9 yJ0_checkIndex_df160 cJ0_checkIndex_df160 2 none 2 := ⟨⟨q628, q629, q14, q630⟩, by decide +kernel⟩
theorem lkJ0_492 : LKV "java/lang/String" 492 "java/lang/String" yJ0_isLatin1_aae02 cJ0_isLatin1_aae02 1 (some (.boolean)) 0 := ⟨⟨q621, q622, q623, q14, q624⟩, by decide +kernel⟩
theorem lkJ0_495 : LKS "java/lang/String" 495 yJ1_charAt_3b067 cJ1_charAt_3b067 2 (some (.char)) 2 := ⟨⟨q625, q626, q15, q627⟩, by decide +kernel⟩
theorem lkX4_95 : LKV "RoadThatSings$Reader" 95 "java/lang/String" yJ0_length_8abf5 cJ0_length_8abf5 1 (some (.int)) 0 := ⟨⟨q605, q606, q607, q14, q608⟩, by decide +kernel⟩
theorem lkX4_36 : LKV "RoadThatSings$Reader" 36 "RoadThatSings$Shelf" yX6_size cX6_size 1 (some (.int)) 0 := ⟨⟨q615, q473, q474, q8, q475⟩, by decide +kernel⟩
theorem lkX4_30 : LKV "RoadThatSings$Reader" 30 "RoadThatSings$Shelf" yX6_intAt cX6_intAt 2 (some (.int)) 1 := ⟨⟨q616, q397, q398, q8, q399⟩, by decide +kernel⟩
theorem lkX4_100 : LKV "RoadThatSings$Reader" 100 "java/lang/String" yJ0_charAt_5068e cJ0_charAt_5068e 2 (some (.char)) 1 := ⟨⟨q617, q618, q619, q14, q620⟩, by decide +kernel⟩
theorem lkX4_91 : LKV "RoadThatSings$Reader" 91 "RoadThatSings$Reader" yX4_lettersFitting cX4_lettersFitting 3 (some (.int)) 1 := ⟨⟨q601, q603, qs8, q13, q604⟩, by decide +kernel⟩
theorem lkX8_39 : LKV "RoadThatSings$Tunes" 39 "RoadThatSings$Tunes" yX8_notesOf cX8_notesOf 2 (some (.int)) 1 := ⟨⟨q666, q506, q507, q5, q508⟩, by decide +kernel⟩
theorem lkX4_108 : LKV "RoadThatSings$Reader" 108 "RoadThatSings$Stretches" yX7_isFull cX7_isFull 1 (some (.boolean)) 0 := ⟨⟨q659, q380, q381, q3, q382⟩, by decide +kernel⟩
theorem lkX4_117 : LKV "RoadThatSings$Reader" 117 "RoadThatSings$Cars" yX1_isFull cX1_isFull 1 (some (.boolean)) 0 := ⟨⟨q660, q446, q447, q4, q448⟩, by decide +kernel⟩
theorem lkX4_120 : LKV "RoadThatSings$Reader" 120 "RoadThatSings$Tunes" yX8_isFull cX8_isFull 1 (some (.boolean)) 0 := ⟨⟨q661, q480, q481, q5, q482⟩, by decide +kernel⟩
theorem lkX4_121 : LKV "RoadThatSings$Reader" 121 "RoadThatSings$Tunes" yX8_mayTakeNote cX8_mayTakeNote 1 (some (.boolean)) 0 := ⟨⟨q662, q663, q664, q5, q665⟩, by decide +kernel⟩
theorem lkX4_145 : LKN "RoadThatSings$Reader" 145 yX9_within "RoadThatSings" cX9_within 3 (some (.boolean)) 3 := ⟨⟨List.mem_of_getElem? (i := 10) rfl, q218, q1, q219⟩, by decide +kernel⟩
theorem lkX7_34 : LKV "RoadThatSings$Stretches" 34 "RoadThatSings$Stretches" yX7_isFull cX7_isFull 1 (some (.boolean)) 0 := ⟨⟨q387, q380, q381, q3, q382⟩, by decide +kernel⟩
theorem lkX4_124 : LKV "RoadThatSings$Reader" 124 "RoadThatSings$Reader" yX4_readNumber cX4_readNumber 5 (some (.int)) 2 := ⟨⟨q675, q677, qs12, q13, q678⟩, by decide +kernel⟩
theorem lkX4_131 : LKV "RoadThatSings$Reader" 131 "RoadThatSings$Stretches" yX7_add cX7_add 5 (some (.int)) 4 := ⟨⟨q684, q384, q385, q3, q386⟩, by decide +kernel⟩
theorem lkX4_135 : LKV "RoadThatSings$Reader" 135 "RoadThatSings$Cars" yX1_shareOfAll cX1_shareOfAll 3 (some (.int)) 0 := ⟨⟨q689, q434, q435, q4, q436⟩, by decide +kernel⟩
theorem lkX4_138 : LKV "RoadThatSings$Reader" 138 "RoadThatSings$Cars" yX1_add cX1_add 4 (some (.int)) 3 := ⟨⟨q690, q450, q451, q4, q452⟩, by decide +kernel⟩
theorem lkX8_35 : LKV "RoadThatSings$Tunes" 35 "RoadThatSings$Tunes" yX8_isFull cX8_isFull 1 (some (.boolean)) 0 := ⟨⟨q487, q480, q481, q5, q482⟩, by decide +kernel⟩
theorem lkX4_141 : LKV "RoadThatSings$Reader" 141 "RoadThatSings$Tunes" yX8_addNote cX8_addNote 5 none 2 := ⟨⟨q696, q489, q490, q5, q491⟩, by decide +kernel⟩
theorem lkX5_60 : LKN "RoadThatSings$Road" 60 yX9_mayBeAsked "RoadThatSings" cX9_mayBeAsked 2 (some (.boolean)) 2 := ⟨⟨List.mem_of_getElem? (i := 9) rfl, q528, q1, q529⟩, by decide +kernel⟩
theorem lkX4_156 : LKV "RoadThatSings$Reader" 156 "RoadThatSings$Road" yX5_demand cX5_demand 3 none 2 := ⟨⟨q703, q540, q541, q2, q542⟩, by decide +kernel⟩
theorem lkX4_48 : LKV "RoadThatSings$Reader" 48 "RoadThatSings$Reader" yX4_failAt cX4_failAt 2 (some (.boolean)) 1 := ⟨⟨q667, q669, qs10, q13, q670⟩, by decide +kernel⟩
theorem lkX4_40 : LKV "RoadThatSings$Reader" 40 "RoadThatSings$Reader" yX4_readWord cX4_readWord 6 (some (.object "RoadThatSings$Item")) 0 := ⟨⟨q595, q597, qs7, q13, q598⟩, by decide +kernel⟩
theorem lkX4_44 : LKV "RoadThatSings$Reader" 44 "RoadThatSings$Reader" yX4_mayStand cX4_mayStand 2 (some (.boolean)) 1 := ⟨⟨q655, q657, qs9, q13, q658⟩, by decide +kernel⟩
theorem lkX4_57 : LKV "RoadThatSings$Reader" 57 "RoadThatSings$Reader" yX4_readStretch cX4_readStretch 5 (some (.boolean)) 1 := ⟨⟨q671, q673, qs11, q13, q674⟩, by decide +kernel⟩
theorem lkX4_60 : LKV "RoadThatSings$Reader" 60 "RoadThatSings$Reader" yX4_readCar cX4_readCar 5 (some (.boolean)) 0 := ⟨⟨q685, q687, qs13, q13, q688⟩, by decide +kernel⟩
theorem lkX4_69 : LKV "RoadThatSings$Reader" 69 "RoadThatSings$Tunes" yX8_begin cX8_begin 1 (some (.int)) 0 := ⟨⟨q691, q484, q485, q5, q486⟩, by decide +kernel⟩
theorem lkX4_74 : LKV "RoadThatSings$Reader" 74 "RoadThatSings$Reader" yX4_readNote cX4_readNote 3 (some (.boolean)) 0 := ⟨⟨q692, q694, qs14, q13, q695⟩, by decide +kernel⟩
theorem lkX4_80 : LKV "RoadThatSings$Reader" 80 "RoadThatSings$Reader" yX4_readDemand cX4_readDemand 3 (some (.boolean)) 1 := ⟨⟨q697, q699, qs15, q13, q700⟩, by decide +kernel⟩
theorem lkX4_26 : LKV "RoadThatSings$Reader" 26 "RoadThatSings$Reader" yX4_readItem cX4_readItem 3 (some (.boolean)) 0 := ⟨⟨q591, q593, qs6, q13, q594⟩, by decide +kernel⟩
theorem lkX5_40 : LKV "RoadThatSings$Road" 40 "RoadThatSings$Stretches" yX7_become cX7_become 2 none 1 := ⟨⟨q552, q553, q554, q3, q555⟩, by decide +kernel⟩
theorem lkX5_44 : LKV "RoadThatSings$Road" 44 "RoadThatSings$Cars" yX1_become cX1_become 2 none 1 := ⟨⟨q557, q558, q559, q4, q560⟩, by decide +kernel⟩
theorem lkX5_47 : LKV "RoadThatSings$Road" 47 "RoadThatSings$Tunes" yX8_become cX8_become 2 none 1 := ⟨⟨q562, q563, q564, q5, q565⟩, by decide +kernel⟩
theorem lkX7_47 : LKV "RoadThatSings$Stretches" 47 "RoadThatSings$Stretches" yX7_has cX7_has 2 (some (.boolean)) 1 := ⟨⟨q335, q303, q304, q3, q305⟩, by decide +kernel⟩
theorem lkX7_51 : LKN "RoadThatSings$Stretches" 51 yX9_isOfTwoSpaces "RoadThatSings" cX9_isOfTwoSpaces 1 (some (.boolean)) 1 := ⟨⟨List.mem_of_getElem? (i := 7) rfl, q362, q1, q363⟩, by decide +kernel⟩
theorem lkX7_54 : LKV "RoadThatSings$Stretches" 54 "RoadThatSings$Stretches" yX7_kindOf cX7_kindOf 2 (some (.int)) 1 := ⟨⟨q352, q332, q333, q3, q334⟩, by decide +kernel⟩
theorem lkX7_61 : LKV "RoadThatSings$Stretches" 61 "RoadThatSings$Stretches" yX7_spacesTogether cX7_spacesTogether 2 (some (.int)) 1 := ⟨⟨q357, q358, q359, q3, q360⟩, by decide +kernel⟩
theorem lkX7_73 : LKN "RoadThatSings$Stretches" 73 yX9_humBy "RoadThatSings" cX9_humBy 2 (some (.int)) 2 := ⟨⟨List.mem_of_getElem? (i := 11) rfl, q721, q1, q722⟩, by decide +kernel⟩
theorem lkX5_65 : LKV "RoadThatSings$Road" 65 "RoadThatSings$Stretches" yX7_has cX7_has 2 (some (.boolean)) 1 := ⟨⟨q767, q303, q304, q3, q305⟩, by decide +kernel⟩
theorem lkX5_69 : LKV "RoadThatSings$Road" 69 "RoadThatSings$Cars" yX1_speedOf cX1_speedOf 2 (some (.int)) 1 := ⟨⟨q768, q460, q461, q4, q462⟩, by decide +kernel⟩
theorem lkX5_73 : LKV "RoadThatSings$Road" 73 "RoadThatSings$Stretches" yX7_humOf cX7_humOf 4 (some (.int)) 2 := ⟨⟨q769, q717, q718, q3, q719⟩, by decide +kernel⟩
theorem lkX5_77 : LKV "RoadThatSings$Road" 77 "RoadThatSings$Tunes" yX8_pitchOf cX8_pitchOf 3 (some (.int)) 2 := ⟨⟨q770, q519, q520, q5, q521⟩, by decide +kernel⟩
theorem lkX5_80 : LKN "RoadThatSings$Road" 80 yX9_offBetween "RoadThatSings" cX9_offBetween 2 (some (.int)) 2 := ⟨⟨List.mem_of_getElem? (i := 13) rfl, q753, q1, q754⟩, by decide +kernel⟩
theorem lkX5_83 : LKV "RoadThatSings$Road" 83 "RoadThatSings$Tunes" yX8_notesOf cX8_notesOf 2 (some (.int)) 1 := ⟨⟨q780, q506, q507, q5, q508⟩, by decide +kernel⟩
theorem lkX5_86 : LKV "RoadThatSings$Road" 86 "RoadThatSings$Road" yX5_offOfNote cX5_offOfNote 5 (some (.int)) 3 := ⟨⟨q781, q764, q765, q2, q766⟩, by decide +kernel⟩
theorem lkX7_64 : LKV "RoadThatSings$Stretches" 64 "RoadThatSings$Stretches" yX7_timesOf cX7_timesOf 2 (some (.int)) 1 := ⟨⟨q364, q365, q366, q3, q367⟩, by decide +kernel⟩
theorem lkX7_58 : LKV "RoadThatSings$Stretches" 58 "RoadThatSings$Stretches" yX7_otherOf cX7_otherOf 2 (some (.int)) 1 := ⟨⟨q353, q354, q355, q3, q356⟩, by decide +kernel⟩
theorem lkX7_67 : LKV "RoadThatSings$Stretches" 67 "RoadThatSings$Stretches" yX7_lengthOf cX7_lengthOf 3 (some (.int)) 1 := ⟨⟨q348, q349, q350, q3, q351⟩, by decide +kernel⟩
theorem lkX7_76 : LKN "RoadThatSings$Stretches" 76 yX9_quotient "RoadThatSings" cX9_quotient 2 (some (.int)) 2 := ⟨⟨List.mem_of_getElem? (i := 12) rfl, q724, q1, q725⟩, by decide +kernel⟩
theorem lkX5_98 : LKV "RoadThatSings$Road" 98 "RoadThatSings$Stretches" yX7_lastingOf cX7_lastingOf 3 (some (.int)) 2 := ⟨⟨q788, q731, q732, q3, q733⟩, by decide +kernel⟩
theorem lkX5_101 : LKV "RoadThatSings$Road" 101 "RoadThatSings$Tunes" yX8_beatsOf cX8_beatsOf 3 (some (.int)) 2 := ⟨⟨q789, q514, q515, q5, q516⟩, by decide +kernel⟩
theorem lkX5_104 : LKV "RoadThatSings$Road" 104 "RoadThatSings$Road" yX5_asked cX5_asked 2 (some (.int)) 1 := ⟨⟨q790, q535, q536, q2, q537⟩, by decide +kernel⟩
theorem lkX5_107 : LKV "RoadThatSings$Road" 107 "RoadThatSings$Road" yX5_worstOf cX5_worstOf 5 (some (.int)) 2 := ⟨⟨q795, q777, q778, q2, q779⟩, by decide +kernel⟩
theorem lkX5_110 : LKV "RoadThatSings$Road" 110 "RoadThatSings$Cars" yX1_count cX1_count 1 (some (.int)) 0 := ⟨⟨q1003, q930, q931, q4, q932⟩, by decide +kernel⟩
theorem lkX7_70 : LKV "RoadThatSings$Stretches" 70 "RoadThatSings$Stretches" yX7_spaceOf cX7_spaceOf 2 (some (.int)) 1 := ⟨⟨q368, q369, q370, q3, q371⟩, by decide +kernel⟩
theorem lkX5_114 : LKV "RoadThatSings$Road" 114 "RoadThatSings$Stretches" yX7_count cX7_count 1 (some (.int)) 0 := ⟨⟨q804, q405, q406, q3, q407⟩, by decide +kernel⟩
theorem lkX5_115 : LKV "RoadThatSings$Road" 115 "RoadThatSings$Stretches" yX7_isNearerThan cX7_isNearerThan 5 (some (.boolean)) 2 := ⟨⟨q805, q806, q807, q3, q808⟩, by decide +kernel⟩
theorem lkX5_118 : LKV "RoadThatSings$Road" 118 "RoadThatSings$Stretches" yX7_lengthOf cX7_lengthOf 3 (some (.int)) 1 := ⟨⟨q813, q349, q350, q3, q351⟩, by decide +kernel⟩
theorem lkX6_28 : LKV "RoadThatSings$Shelf" 28 "RoadThatSings$Shelf" yX6_holdsRow cX6_holdsRow 1 (some (.boolean)) 0 := ⟨⟨q277, q253, q254, q8, q255⟩, by decide +kernel⟩
theorem lkX6_32 : LKV "RoadThatSings$Shelf" 32 "RoadThatSings$Shelf" yX6_holdsStretch cX6_holdsStretch 1 (some (.boolean)) 0 := ⟨⟨q322, q249, q250, q8, q251⟩, by decide +kernel⟩
theorem lkX6_44 : LKS "RoadThatSings$Shelf" 44 yJ7_fill_d0a16 cJ7_fill_d0a16 5 none 2 := ⟨⟨q238, q239, q11, q240⟩, by decide +kernel⟩
theorem lkX6_54 : LKV "RoadThatSings$Shelf" 54 "RoadThatSings$Shelf" yX6_lowestBits cX6_lowestBits 3 (some (.long)) 1 := ⟨⟨q265, q267, qs3, q8, q268⟩, by decide +kernel⟩
theorem lkX6_58 : LKV "RoadThatSings$Shelf" 58 "RoadThatSings$Shelf" yX6_hasElements cX6_hasElements 3 (some (.boolean)) 2 := ⟨⟨q286, q279, q280, q8, q281⟩, by decide +kernel⟩
theorem lkX7_79 : LKV "RoadThatSings$Stretches" 79 "RoadThatSings$Stretches" yX7_newLoudnessOf cX7_newLoudnessOf 2 (some (.int)) 1 := ⟨⟨q743, q745, qs16, q3, q746⟩, by decide +kernel⟩
theorem lkX7_82 : LKV "RoadThatSings$Stretches" 82 "RoadThatSings$Stretches" yX7_loudnessOf cX7_loudnessOf 3 (some (.int)) 2 := ⟨⟨q994, q740, q741, q3, q742⟩, by decide +kernel⟩
theorem lkX8_47 : LKV "RoadThatSings$Tunes" 47 "RoadThatSings$Tunes" yX8_beatsOf cX8_beatsOf 3 (some (.int)) 2 := ⟨⟨q513, q514, q515, q5, q516⟩, by decide +kernel⟩
theorem lkX9_351 : LKV "RoadThatSings" 351 "RoadThatSings" yX9_refuseAs cX9_refuseAs 3 (some (.int)) 2 := ⟨⟨q224, q226, qs2, q1, q227⟩, by decide +kernel⟩
theorem lkX9_55 : LKV "RoadThatSings" 55 "RoadThatSings" yX9_shelfAt cX9_shelfAt 2 (some (.object "RoadThatSings$Shelf")) 1 := ⟨⟨q213, q215, qs0, q1, q216⟩, by decide +kernel⟩
theorem lkX9_59 : LKV "RoadThatSings" 59 "RoadThatSings" yX9_refuse cX9_refuse 2 (some (.int)) 1 := ⟨⟨q220, q222, qs1, q1, q223⟩, by decide +kernel⟩
theorem lkX9_67 : LKV "RoadThatSings" 67 "RoadThatSings$Shelf" yX6_holdRow cX6_holdRow 3 none 2 := ⟨⟨q228, q229, q230, q8, q231⟩, by decide +kernel⟩
theorem lkX9_83 : LKV "RoadThatSings" 83 "RoadThatSings$Shelf" yX6_holdsStretch cX6_holdsStretch 1 (some (.boolean)) 0 := ⟨⟨q248, q249, q250, q8, q251⟩, by decide +kernel⟩
theorem lkX9_91 : LKV "RoadThatSings" 91 "RoadThatSings$Shelf" yX6_holdsRow cX6_holdsRow 1 (some (.boolean)) 0 := ⟨⟨q252, q253, q254, q8, q255⟩, by decide +kernel⟩
theorem lkX9_71 : LKS "RoadThatSings" 71 yX9_refusalOfRow cX9_refusalOfRow 1 (some (.int)) 1 := ⟨⟨q245, q246, q1, q247⟩, by decide +kernel⟩
theorem lkX9_75 : LKV "RoadThatSings" 75 "RoadThatSings$Shelf" yX6_hasElement cX6_hasElement 2 (some (.boolean)) 1 := ⟨⟨q256, q257, q258, q8, q259⟩, by decide +kernel⟩
theorem lkX9_79 : LKV "RoadThatSings" 79 "RoadThatSings$Shelf" yX6_put cX6_put 4 none 2 := ⟨⟨q260, q261, q262, q8, q263⟩, by decide +kernel⟩
theorem lkX9_87 : LKV "RoadThatSings" 87 "RoadThatSings$Shelf" yX6_isRowUnlike cX6_isRowUnlike 2 (some (.boolean)) 1 := ⟨⟨q273, q274, q275, q8, q276⟩, by decide +kernel⟩
theorem lkX9_94 : LKV "RoadThatSings" 94 "RoadThatSings$Shelf" yX6_hasElements cX6_hasElements 3 (some (.boolean)) 2 := ⟨⟨q278, q279, q280, q8, q281⟩, by decide +kernel⟩
theorem lkX9_98 : LKV "RoadThatSings" 98 "RoadThatSings$Shelf" yX6_takeFrom cX6_takeFrom 5 none 4 := ⟨⟨q282, q283, q284, q8, q285⟩, by decide +kernel⟩
theorem lkX9_102 : LKV "RoadThatSings" 102 "RoadThatSings$Shelf" yX6_elementAt cX6_elementAt 2 (some (.long)) 1 := ⟨⟨q294, q295, q296, q8, q297⟩, by decide +kernel⟩
theorem lkX9_118 : LKV "RoadThatSings" 118 "RoadThatSings$Shelf" yX6_holdStretch cX6_holdStretch 2 none 1 := ⟨⟨q310, q311, q312, q8, q313⟩, by decide +kernel⟩
theorem lkX9_115 : LKV "RoadThatSings" 115 "RoadThatSings$Shelf" yX6_holdNothing cX6_holdNothing 1 none 0 := ⟨⟨q306, q307, q308, q8, q309⟩, by decide +kernel⟩
theorem lkX9_110 : LKV "RoadThatSings" 110 "RoadThatSings$Stretches" yX7_has cX7_has 2 (some (.boolean)) 1 := ⟨⟨q302, q303, q304, q3, q305⟩, by decide +kernel⟩
theorem lkX9_122 : LKV "RoadThatSings" 122 "RoadThatSings$Shelf" yX6_whatIsHeld cX6_whatIsHeld 1 (some (.int)) 0 := ⟨⟨q318, q319, q320, q8, q321⟩, by decide +kernel⟩
theorem lkX9_416 : LKS "RoadThatSings" 416 yX9_kindAbove cX9_kindAbove 1 (some (.int)) 1 := ⟨⟨q339, q340, q1, q341⟩, by decide +kernel⟩
theorem lkX9_126 : LKV "RoadThatSings" 126 "RoadThatSings$Shelf" yX6_stretchHeld cX6_stretchHeld 1 (some (.int)) 0 := ⟨⟨q327, q328, q329, q8, q330⟩, by decide +kernel⟩
theorem lkX9_129 : LKV "RoadThatSings" 129 "RoadThatSings$Stretches" yX7_kindOf cX7_kindOf 2 (some (.int)) 1 := ⟨⟨q331, q332, q333, q3, q334⟩, by decide +kernel⟩
theorem lkX9_132 : LKS "RoadThatSings" 132 yX9_isKindUnder cX9_isKindUnder 4 (some (.boolean)) 2 := ⟨⟨q336, q337, q1, q338⟩, by decide +kernel⟩
theorem lkX9_135 : LKV "RoadThatSings" 135 "RoadThatSings$Stretches" yX7_sayingOf cX7_sayingOf 3 (some (.int)) 2 := ⟨⟨q344, q345, q346, q3, q347⟩, by decide +kernel⟩
theorem lkX9_139 : LKS "RoadThatSings" 139 yX9_areMeasures cX9_areMeasures 3 (some (.boolean)) 3 := ⟨⟨q376, q377, q1, q378⟩, by decide +kernel⟩
theorem lkX9_142 : LKV "RoadThatSings" 142 "RoadThatSings$Stretches" yX7_isFull cX7_isFull 1 (some (.boolean)) 0 := ⟨⟨q379, q380, q381, q3, q382⟩, by decide +kernel⟩
theorem lkX9_145 : LKV "RoadThatSings" 145 "RoadThatSings$Stretches" yX7_add cX7_add 5 (some (.int)) 4 := ⟨⟨q383, q384, q385, q3, q386⟩, by decide +kernel⟩
theorem lkX9_153 : LKV "RoadThatSings" 153 "RoadThatSings$Shelf" yX6_intAt cX6_intAt 2 (some (.int)) 1 := ⟨⟨q396, q397, q398, q8, q399⟩, by decide +kernel⟩
theorem lkX9_149 : LKV "RoadThatSings" 149 "RoadThatSings" yX9_addStretchFrom cX9_addStretchFrom 7 (some (.boolean)) 2 := ⟨⟨q392, q394, qs4, q1, q395⟩, by decide +kernel⟩
theorem lkX9_156 : LKV "RoadThatSings" 156 "RoadThatSings$Stretches" yX7_count cX7_count 1 (some (.int)) 0 := ⟨⟨q404, q405, q406, q3, q407⟩, by decide +kernel⟩
theorem lkX9_159 : LKV "RoadThatSings" 159 "RoadThatSings$Stretches" yX7_leave cX7_leave 2 none 1 := ⟨⟨q408, q409, q410, q3, q411⟩, by decide +kernel⟩
theorem lkX9_162 : LKV "RoadThatSings" 162 "RoadThatSings" yX9_clearShelvesOfGoneStretches cX9_clearShelvesOfGoneStretches 3 none 0 := ⟨⟨q414, q416, qs5, q1, q417⟩, by decide +kernel⟩
theorem lkX9_165 : LKV "RoadThatSings" 165 "RoadThatSings$Stretches" yX7_spaceOf cX7_spaceOf 2 (some (.int)) 1 := ⟨⟨q422, q369, q370, q3, q371⟩, by decide +kernel⟩
theorem lkX9_168 : LKV "RoadThatSings" 168 "RoadThatSings$Stretches" yX7_otherOf cX7_otherOf 2 (some (.int)) 1 := ⟨⟨q423, q354, q355, q3, q356⟩, by decide +kernel⟩
theorem lkX9_171 : LKV "RoadThatSings" 171 "RoadThatSings$Stretches" yX7_timesOf cX7_timesOf 2 (some (.int)) 1 := ⟨⟨q424, q365, q366, q3, q367⟩, by decide +kernel⟩
theorem lkX9_174 : LKV "RoadThatSings" 174 "RoadThatSings$Stretches" yX7_lengthOf cX7_lengthOf 3 (some (.int)) 1 := ⟨⟨q425, q349, q350, q3, q351⟩, by decide +kernel⟩
theorem lkX9_177 : LKS "RoadThatSings" 177 yX9_isSpeed cX9_isSpeed 1 (some (.boolean)) 1 := ⟨⟨q430, q431, q1, q432⟩, by decide +kernel⟩
theorem lkX9_184 : LKV "RoadThatSings" 184 "RoadThatSings$Cars" yX1_shareOfAll cX1_shareOfAll 3 (some (.int)) 0 := ⟨⟨q433, q434, q435, q4, q436⟩, by decide +kernel⟩
theorem lkX9_189 : LKV "RoadThatSings" 189 "RoadThatSings$Cars" yX1_isFull cX1_isFull 1 (some (.boolean)) 0 := ⟨⟨q445, q446, q447, q4, q448⟩, by decide +kernel⟩
theorem lkX9_190 : LKV "RoadThatSings" 190 "RoadThatSings$Cars" yX1_add cX1_add 4 (some (.int)) 3 := ⟨⟨q449, q450, q451, q4, q452⟩, by decide +kernel⟩
theorem lkX9_193 : LKV "RoadThatSings" 193 "RoadThatSings$Cars" yX1_has cX1_has 2 (some (.boolean)) 1 := ⟨⟨q458, q442, q443, q4, q444⟩, by decide +kernel⟩
theorem lkX9_194 : LKV "RoadThatSings" 194 "RoadThatSings$Cars" yX1_speedOf cX1_speedOf 2 (some (.int)) 1 := ⟨⟨q459, q460, q461, q4, q462⟩, by decide +kernel⟩
theorem lkX9_197 : LKV "RoadThatSings" 197 "RoadThatSings$Cars" yX1_baseOf cX1_baseOf 2 (some (.int)) 1 := ⟨⟨q463, q464, q465, q4, q466⟩, by decide +kernel⟩
theorem lkX9_200 : LKV "RoadThatSings" 200 "RoadThatSings$Cars" yX1_shareOf cX1_shareOf 2 (some (.int)) 1 := ⟨⟨q467, q438, q439, q4, q440⟩, by decide +kernel⟩
theorem lkX9_203 : LKV "RoadThatSings" 203 "RoadThatSings$Shelf" yX6_size cX6_size 1 (some (.int)) 0 := ⟨⟨q472, q473, q474, q8, q475⟩, by decide +kernel⟩
theorem lkX9_206 : LKS "RoadThatSings" 206 yX9_areNotes cX9_areNotes 3 (some (.boolean)) 2 := ⟨⟨q476, q477, q1, q478⟩, by decide +kernel⟩
theorem lkX9_213 : LKV "RoadThatSings" 213 "RoadThatSings$Tunes" yX8_isFull cX8_isFull 1 (some (.boolean)) 0 := ⟨⟨q479, q480, q481, q5, q482⟩, by decide +kernel⟩
theorem lkX9_216 : LKV "RoadThatSings" 216 "RoadThatSings$Tunes" yX8_begin cX8_begin 1 (some (.int)) 0 := ⟨⟨q483, q484, q485, q5, q486⟩, by decide +kernel⟩
theorem lkX9_219 : LKV "RoadThatSings" 219 "RoadThatSings$Tunes" yX8_addNote cX8_addNote 5 none 2 := ⟨⟨q488, q489, q490, q5, q491⟩, by decide +kernel⟩
theorem lkX9_222 : LKV "RoadThatSings" 222 "RoadThatSings$Tunes" yX8_has cX8_has 2 (some (.boolean)) 1 := ⟨⟨q500, q493, q494, q5, q495⟩, by decide +kernel⟩
theorem lkX9_235 : LKV "RoadThatSings" 235 "RoadThatSings$Tunes" yX8_beatsOf cX8_beatsOf 3 (some (.int)) 2 := ⟨⟨q522, q514, q515, q5, q516⟩, by decide +kernel⟩
theorem lkX9_232 : LKV "RoadThatSings" 232 "RoadThatSings$Tunes" yX8_pitchOf cX8_pitchOf 3 (some (.int)) 2 := ⟨⟨q518, q519, q520, q5, q521⟩, by decide +kernel⟩
theorem lkX9_226 : LKV "RoadThatSings" 226 "RoadThatSings$Tunes" yX8_notesOf cX8_notesOf 2 (some (.int)) 1 := ⟨⟨q505, q506, q507, q5, q508⟩, by decide +kernel⟩
theorem lkX9_229 : LKV "RoadThatSings" 229 "RoadThatSings$Tunes" yX8_beatsAhead cX8_beatsAhead 5 (some (.int)) 2 := ⟨⟨q509, q510, q511, q5, q512⟩, by decide +kernel⟩
theorem lkX9_223 : LKV "RoadThatSings" 223 "RoadThatSings$Tunes" yX8_hasNote cX8_hasNote 3 (some (.boolean)) 2 := ⟨⟨q501, q502, q503, q5, q504⟩, by decide +kernel⟩
theorem lkX9_238 : LKS "RoadThatSings" 238 yX9_mayBeAsked cX9_mayBeAsked 2 (some (.boolean)) 2 := ⟨⟨q527, q528, q1, q529⟩, by decide +kernel⟩
theorem lkX9_241 : LKV "RoadThatSings" 241 "RoadThatSings$Road" yX5_asked cX5_asked 2 (some (.int)) 1 := ⟨⟨q534, q535, q536, q2, q537⟩, by decide +kernel⟩
theorem lkX9_244 : LKV "RoadThatSings" 244 "RoadThatSings$Road" yX5_demand cX5_demand 3 none 2 := ⟨⟨q539, q540, q541, q2, q542⟩, by decide +kernel⟩
theorem lkX9_247 : LKV "RoadThatSings" 247 "RoadThatSings$Road" yX5_become cX5_become 2 none 1 := ⟨⟨q548, q549, q550, q2, q551⟩, by decide +kernel⟩
theorem lkX9_262 : LKV "RoadThatSings" 262 "RoadThatSings$Stretches" yX7_humOf cX7_humOf 4 (some (.int)) 2 := ⟨⟨q716, q717, q718, q3, q719⟩, by decide +kernel⟩
theorem lkX9_265 : LKV "RoadThatSings" 265 "RoadThatSings$Stretches" yX7_lastingOf cX7_lastingOf 3 (some (.int)) 2 := ⟨⟨q730, q731, q732, q3, q733⟩, by decide +kernel⟩
theorem lkX9_268 : LKV "RoadThatSings" 268 "RoadThatSings$Stretches" yX7_loudnessOf cX7_loudnessOf 3 (some (.int)) 2 := ⟨⟨q739, q740, q741, q3, q742⟩, by decide +kernel⟩
theorem lkX9_272 : LKS "RoadThatSings" 272 yX9_offBetween cX9_offBetween 2 (some (.int)) 2 := ⟨⟨q752, q753, q1, q754⟩, by decide +kernel⟩
theorem lkX9_275 : LKV "RoadThatSings" 275 "RoadThatSings$Road" yX5_offOfNote cX5_offOfNote 5 (some (.int)) 3 := ⟨⟨q763, q764, q765, q2, q766⟩, by decide +kernel⟩
theorem lkX9_278 : LKV "RoadThatSings" 278 "RoadThatSings$Road" yX5_worstOf cX5_worstOf 5 (some (.int)) 2 := ⟨⟨q776, q777, q778, q2, q779⟩, by decide +kernel⟩
theorem lkX9_281 : LKV "RoadThatSings" 281 "RoadThatSings$Road" yX5_latenessOf cX5_latenessOf 7 (some (.int)) 2 := ⟨⟨q783, q784, q785, q2, q786⟩, by decide +kernel⟩
theorem lkX9_284 : LKV "RoadThatSings" 284 "RoadThatSings$Road" yX5_isHeardBy cX5_isHeardBy 3 (some (.boolean)) 2 := ⟨⟨q791, q792, q793, q2, q794⟩, by decide +kernel⟩
theorem lkX9_287 : LKV "RoadThatSings" 287 "RoadThatSings$Road" yX5_firstTooNear cX5_firstTooNear 2 (some (.int)) 0 := ⟨⟨q800, q801, q802, q2, q803⟩, by decide +kernel⟩
theorem lkX9_290 : LKV "RoadThatSings" 290 "RoadThatSings$Road" yX5_firstTooFar cX5_firstTooFar 3 (some (.int)) 0 := ⟨⟨q809, q810, q811, q2, q812⟩, by decide +kernel⟩
theorem lkX9_293 : LKV "RoadThatSings" 293 "RoadThatSings$Stretches" yX7_isMetBy cX7_isMetBy 4 (some (.boolean)) 2 := ⟨⟨q822, q823, q824, q3, q825⟩, by decide +kernel⟩
theorem lkX9_296 : LKV "RoadThatSings" 296 "RoadThatSings$Cutting" yX2_cutFor cX2_cutFor 4 none 3 := ⟨⟨q830, q831, q832, q6, q833⟩, by decide +kernel⟩
theorem lkX9_302 : LKV "RoadThatSings" 302 "RoadThatSings$Cutting" yX2_offOf cX2_offOf 2 (some (.int)) 1 := ⟨⟨q873, q874, q875, q6, q876⟩, by decide +kernel⟩
theorem lkX9_301 : LKV "RoadThatSings" 301 "RoadThatSings$Cutting" yX2_timesOf cX2_timesOf 2 (some (.int)) 1 := ⟨⟨q869, q870, q871, q6, q872⟩, by decide +kernel⟩
theorem lkX9_300 : LKV "RoadThatSings" 300 "RoadThatSings$Cutting" yX2_spaceOf cX2_spaceOf 2 (some (.int)) 1 := ⟨⟨q861, q862, q863, q6, q864⟩, by decide +kernel⟩
theorem lkX9_305 : LKV "RoadThatSings" 305 "RoadThatSings" yX9_refusalOfTuneAt cX9_refusalOfTuneAt 3 (some (.int)) 2 := ⟨⟨q881, q883, qs19, q1, q884⟩, by decide +kernel⟩
theorem lkX9_308 : LKV "RoadThatSings" 308 "RoadThatSings$Cutting" yX2_notes cX2_notes 1 (some (.int)) 0 := ⟨⟨q885, q886, q887, q6, q888⟩, by decide +kernel⟩
theorem lkX9_311 : LKV "RoadThatSings" 311 "RoadThatSings$Stretches" yX7_lengthOfAll cX7_lengthOfAll 3 (some (.int)) 0 := ⟨⟨q889, q890, q891, q3, q892⟩, by decide +kernel⟩
theorem lkX9_318 : LKV "RoadThatSings" 318 "RoadThatSings$Cutting" yX2_lengthOfAll cX2_lengthOfAll 3 (some (.int)) 0 := ⟨⟨q901, q902, q903, q6, q904⟩, by decide +kernel⟩
theorem lkX9_319 : LKV "RoadThatSings" 319 "RoadThatSings$Cutting" yX2_worstOff cX2_worstOff 3 (some (.int)) 0 := ⟨⟨q907, q908, q909, q6, q910⟩, by decide +kernel⟩
theorem lkX9_314 : LKV "RoadThatSings" 314 "RoadThatSings" yX9_cutFits cX9_cutFits 3 (some (.boolean)) 2 := ⟨⟨q897, q899, qs20, q1, q900⟩, by decide +kernel⟩
theorem lkX9_317 : LKV "RoadThatSings" 317 "RoadThatSings$Tunes" yX8_count cX8_count 1 (some (.int)) 0 := ⟨⟨q916, q917, q918, q5, q919⟩, by decide +kernel⟩
theorem lkX9_325 : LKV "RoadThatSings" 325 "RoadThatSings$Cutting" yX2_chooseSpaces cX2_chooseSpaces 7 none 3 := ⟨⟨q928, q835, q836, q6, q837⟩, by decide +kernel⟩
theorem lkX9_328 : LKV "RoadThatSings" 328 "RoadThatSings$Cars" yX1_count cX1_count 1 (some (.int)) 0 := ⟨⟨q929, q930, q931, q4, q932⟩, by decide +kernel⟩
theorem lkX9_329 : LKV "RoadThatSings" 329 "RoadThatSings$Cutting" yX2_isHeardAt cX2_isHeardAt 6 (some (.boolean)) 3 := ⟨⟨q933, q934, q935, q6, q936⟩, by decide +kernel⟩
theorem lkX9_322 : LKV "RoadThatSings" 322 "RoadThatSings" yX9_shareServed cX9_shareServed 5 (some (.int)) 2 := ⟨⟨q924, q926, qs21, q1, q927⟩, by decide +kernel⟩
theorem lkX9_337 : LKS "RoadThatSings" 337 yX9_humBy cX9_humBy 2 (some (.int)) 2 := ⟨⟨q949, q721, q1, q722⟩, by decide +kernel⟩
theorem lkX9_333 : LKV "RoadThatSings" 333 "RoadThatSings" yX9_haveOneSpace cX9_haveOneSpace 7 (some (.boolean)) 4 := ⟨⟨q945, q947, qs22, q1, q948⟩, by decide +kernel⟩
theorem lkX9_347 : LKS "RoadThatSings" 347 yX9_quotient_ cX9_quotient_ 4 (some (.long)) 2 := ⟨⟨q959, q960, q1, q961⟩, by decide +kernel⟩
theorem lkX9_340 : LKS "RoadThatSings" 340 yX9_briefLength cX9_briefLength 9 (some (.int)) 3 := ⟨⟨q954, q955, q1, q956⟩, by decide +kernel⟩
theorem lkX9_356 : LKS "RoadThatSings" 356 yX9_withinOctave cX9_withinOctave 3 (some (.int)) 1 := ⟨⟨q966, q967, q1, q968⟩, by decide +kernel⟩
theorem lkX9_359 : LKS "RoadThatSings" 359 yX9_nearestStep cX9_nearestStep 3 (some (.int)) 1 := ⟨⟨q969, q970, q1, q971⟩, by decide +kernel⟩
theorem lkX9_370 : LKV "RoadThatSings" 370 "RoadThatSings$Stretches" yX7_isOneLoud cX7_isOneLoud 3 (some (.boolean)) 1 := ⟨⟨q990, q991, q992, q3, q993⟩, by decide +kernel⟩
theorem lkX9_373 : LKV "RoadThatSings" 373 "RoadThatSings$Road" yX5_hearingCars cX5_hearingCars 4 (some (.int)) 1 := ⟨⟨q999, q1000, q1001, q2, q1002⟩, by decide +kernel⟩
theorem lkX9_376 : LKV "RoadThatSings" 376 "RoadThatSings$Road" yX5_draw cX5_draw 2 (some (.int)) 1 := ⟨⟨q1004, q1005, q1006, q2, q1007⟩, by decide +kernel⟩
theorem lkX9_379 : LKV "RoadThatSings" 379 "RoadThatSings$Cars" yX1_carAtShare cX1_carAtShare 4 (some (.int)) 1 := ⟨⟨q1009, q1010, q1011, q4, q1012⟩, by decide +kernel⟩
theorem lkX9_382 : LKV "RoadThatSings" 382 "RoadThatSings$Road" yX5_seedNow cX5_seedNow 1 (some (.int)) 0 := ⟨⟨q1017, q1018, q1019, q2, q1020⟩, by decide +kernel⟩
theorem lkX9_385 : LKV "RoadThatSings" 385 "RoadThatSings$Road" yX5_seedAnew cX5_seedAnew 2 none 1 := ⟨⟨q1021, q1022, q1023, q2, q1024⟩, by decide +kernel⟩
theorem lkX9_388 : LKV "RoadThatSings" 388 "RoadThatSings$Acting" yX0_forget cX0_forget 1 none 0 := ⟨⟨q1029, q1030, q1031, q7, q1032⟩, by decide +kernel⟩
theorem lkX9_391 : LKV "RoadThatSings" 391 "RoadThatSings$Acting" yX0_begin cX0_begin 4 none 3 := ⟨⟨q1033, q1034, q1035, q7, q1036⟩, by decide +kernel⟩
theorem lkX9_394 : LKV "RoadThatSings" 394 "RoadThatSings$Acting" yX0_kindActing cX0_kindActing 1 (some (.int)) 0 := ⟨⟨q1037, q1038, q1039, q7, q1040⟩, by decide +kernel⟩
theorem lkX9_397 : LKN "RoadThatSings" 397 yX0_play "RoadThatSings" cX0_play 10 (some (.int)) 5 := ⟨⟨List.mem_of_getElem? (i := 16) rfl, q1042, q7, q1043⟩, by decide +kernel⟩
theorem lkX9_401 : LKV "RoadThatSings" 401 "RoadThatSings$Acting" yX0_bodyAt cX0_bodyAt 2 (some (.int)) 1 := ⟨⟨q1067, q1068, q1069, q7, q1070⟩, by decide +kernel⟩
theorem lkX9_404 : LKV "RoadThatSings" 404 "RoadThatSings$Acting" yX0_bodiesRan cX0_bodiesRan 1 (some (.int)) 0 := ⟨⟨q1083, q1084, q1085, q7, q1086⟩, by decide +kernel⟩
theorem lkX10_117 : LKV "RoadThatSingsModel" 117 "RoadThatSingsModel" yX10_isShelf cX10_isShelf 2 (some (.boolean)) 1 := ⟨⟨q1227, q1229, qs24, q9, q1230⟩, by decide +kernel⟩
theorem lkX10_121 : LKV "RoadThatSingsModel" 121 "RoadThatSingsModel" yX10_no cX10_no 2 (some (.int)) 1 := ⟨⟨q1231, q1233, qs25, q9, q1234⟩, by decide +kernel⟩
theorem lkX10_125 : LKV "RoadThatSingsModel" 125 "RoadThatSingsModel" yX10_isStretch cX10_isStretch 2 (some (.boolean)) 1 := ⟨⟨q1251, q1253, qs26, q9, q1254⟩, by decide +kernel⟩
theorem lkX10_152 : LKV "RoadThatSingsModel" 152 "RoadThatSingsModel" yX10_isTwo cX10_isTwo 2 (some (.boolean)) 1 := ⟨⟨q1271, q1273, qs29, q9, q1274⟩, by decide +kernel⟩
theorem lkX10_131 : LKV "RoadThatSingsModel" 131 "RoadThatSingsModel" yX10_lengthOf cX10_lengthOf 3 (some (.int)) 1 := ⟨⟨q1267, q1269, qs28, q9, q1270⟩, by decide +kernel⟩
theorem lkX10_128 : LKV "RoadThatSingsModel" 128 "RoadThatSingsModel" yX10_isEven cX10_isEven 2 (some (.boolean)) 1 := ⟨⟨q1263, q1265, qs27, q9, q1266⟩, by decide +kernel⟩
theorem lkX10_134 : LKV "RoadThatSingsModel" 134 "RoadThatSingsModel" yX10_isSo cX10_isSo 4 (some (.boolean)) 3 := ⟨⟨q1279, q1281, qs30, q9, q1282⟩, by decide +kernel⟩
theorem lkX10_138 : LKV "RoadThatSingsModel" 138 "RoadThatSingsModel" yX10_comes cX10_comes 5 none 4 := ⟨⟨q1283, q1285, qs31, q9, q1286⟩, by decide +kernel⟩
theorem lkX10_142 : LKV "RoadThatSingsModel" 142 "RoadThatSingsModel" yX10_wants cX10_wants 2 (some (.int)) 1 := ⟨⟨q1291, q1293, qs32, q9, q1294⟩, by decide +kernel⟩
theorem lkX10_145 : LKV "RoadThatSingsModel" 145 "RoadThatSingsModel" yX10_intAt cX10_intAt 3 (some (.int)) 2 := ⟨⟨q1295, q1297, qs33, q9, q1298⟩, by decide +kernel⟩
theorem lkX10_149 : LKV "RoadThatSingsModel" 149 "RoadThatSingsModel" yX10_shows cX10_shows 2 none 0 := ⟨⟨q1303, q1305, qs34, q9, q1306⟩, by decide +kernel⟩
theorem lkX10_155 : LKV "RoadThatSingsModel" 155 "RoadThatSingsModel" yX10_isSpeed cX10_isSpeed 2 (some (.boolean)) 1 := ⟨⟨q1315, q1317, qs35, q9, q1318⟩, by decide +kernel⟩
theorem lkX10_158 : LKV "RoadThatSingsModel" 158 "RoadThatSingsModel" yX10_shares cX10_shares 3 (some (.int)) 0 := ⟨⟨q1319, q1321, qs36, q9, q1322⟩, by decide +kernel⟩
theorem lkX10_162 : LKV "RoadThatSingsModel" 162 "RoadThatSingsModel" yX10_cars cX10_cars 4 (some (.int)) 3 := ⟨⟨q1323, q1325, qs37, q9, q1326⟩, by decide +kernel⟩
theorem lkX10_165 : LKV "RoadThatSingsModel" 165 "RoadThatSingsModel" yX10_isCar cX10_isCar 2 (some (.boolean)) 1 := ⟨⟨q1331, q1333, qs38, q9, q1334⟩, by decide +kernel⟩
theorem lkX10_168 : LKV "RoadThatSingsModel" 168 "RoadThatSingsModel" yX10_isTune cX10_isTune 2 (some (.boolean)) 1 := ⟨⟨q1343, q1345, qs39, q9, q1346⟩, by decide +kernel⟩
theorem lkX10_171 : LKV "RoadThatSingsModel" 171 "RoadThatSingsModel" yX10_beatsTo cX10_beatsTo 5 (some (.int)) 2 := ⟨⟨q1347, q1349, qs40, q9, q1350⟩, by decide +kernel⟩
theorem lkX10_189 : LKV "RoadThatSingsModel" 189 "RoadThatSingsModel" yX10_isDigit cX10_isDigit 1 (some (.boolean)) 0 := ⟨⟨q1403, q1405, qs52, q9, q1406⟩, by decide +kernel⟩
theorem lkX10_193 : LKV "RoadThatSingsModel" 193 "RoadThatSingsModel" yX10_wrong cX10_wrong 2 (some (.boolean)) 1 := ⟨⟨q1379, q1381, qs46, q9, q1382⟩, by decide +kernel⟩
theorem lkX10_196 : LKV "RoadThatSingsModel" 196 "RoadThatSingsModel" yX10_many cX10_many 2 (some (.int)) 1 := ⟨⟨q1387, q1389, qs48, q9, q1390⟩, by decide +kernel⟩
theorem lkX10_205 : LKV "RoadThatSingsModel" 205 "RoadThatSingsModel" yX10_word cX10_word 6 (some (.int)) 0 := ⟨⟨q1383, q1385, qs47, q9, q1386⟩, by decide +kernel⟩
theorem lkX10_208 : LKV "RoadThatSingsModel" 208 "RoadThatSingsModel" yX10_low cX10_low 3 (some (.int)) 2 := ⟨⟨q1391, q1393, qs49, q9, q1394⟩, by decide +kernel⟩
theorem lkX10_211 : LKV "RoadThatSingsModel" 211 "RoadThatSingsModel" yX10_high cX10_high 3 (some (.int)) 2 := ⟨⟨q1395, q1397, qs50, q9, q1398⟩, by decide +kernel⟩
theorem lkX10_214 : LKV "RoadThatSingsModel" 214 "RoadThatSingsModel" yX10_number cX10_number 5 (some (.boolean)) 2 := ⟨⟨q1399, q1401, qs51, q9, q1402⟩, by decide +kernel⟩
theorem lkX10_199 : LKV "RoadThatSingsModel" 199 "RoadThatSingsModel" yX10_isWordAt cX10_isWordAt 4 (some (.boolean)) 1 := ⟨⟨q1371, q1373, qs44, q9, q1374⟩, by decide +kernel⟩
theorem lkX10_202 : LKV "RoadThatSingsModel" 202 "RoadThatSingsModel" yX10_isFull cX10_isFull 2 (some (.boolean)) 1 := ⟨⟨q1375, q1377, qs45, q9, q1378⟩, by decide +kernel⟩
theorem lkX10_218 : LKV "RoadThatSingsModel" 218 "RoadThatSingsModel" yX10_keeps cX10_keeps 7 (some (.int)) 5 := ⟨⟨q1363, q1365, qs42, q9, q1366⟩, by decide +kernel⟩
theorem lkX10_222 : LKV "RoadThatSingsModel" 222 "RoadThatSingsModel" yX10_all cX10_all 4 none 2 := ⟨⟨q1359, q1361, qs41, q9, q1362⟩, by decide +kernel⟩
theorem lkX10_226 : LKV "RoadThatSingsModel" 226 "RoadThatSingsModel" yX10_item cX10_item 6 (some (.boolean)) 0 := ⟨⟨q1367, q1369, qs43, q9, q1370⟩, by decide +kernel⟩
theorem lkX10_229 : LKV "RoadThatSingsModel" 229 "RoadThatSingsModel" yX10_humBy cX10_humBy 3 (some (.int)) 2 := ⟨⟨q1419, q1421, qs54, q9, q1422⟩, by decide +kernel⟩
theorem lkX10_232 : LKV "RoadThatSingsModel" 232 "RoadThatSingsModel" yX10_humOf cX10_humOf 5 (some (.int)) 2 := ⟨⟨q1415, q1417, qs53, q9, q1418⟩, by decide +kernel⟩
theorem lkX10_235 : LKV "RoadThatSingsModel" 235 "RoadThatSingsModel" yX10_lastsBy cX10_lastsBy 3 (some (.int)) 2 := ⟨⟨q1427, q1429, qs55, q9, q1430⟩, by decide +kernel⟩
theorem lkX10_238 : LKV "RoadThatSingsModel" 238 "RoadThatSingsModel" yX10_loudOf cX10_loudOf 4 (some (.int)) 2 := ⟨⟨q1435, q1437, qs56, q9, q1438⟩, by decide +kernel⟩
theorem lkX10_242 : LKV "RoadThatSingsModel" 242 "RoadThatSingsModel" yX10_offOf cX10_offOf 4 (some (.int)) 2 := ⟨⟨q1444, q1446, qs57, q9, q1447⟩, by decide +kernel⟩
theorem lkX10_245 : LKV "RoadThatSingsModel" 245 "RoadThatSingsModel" yX10_noteBy cX10_noteBy 4 (some (.int)) 3 := ⟨⟨q1452, q1454, qs58, q9, q1455⟩, by decide +kernel⟩
theorem lkX10_248 : LKV "RoadThatSingsModel" 248 "RoadThatSingsModel" yX10_worstOf cX10_worstOf 6 (some (.int)) 2 := ⟨⟨q1460, q1462, qs59, q9, q1463⟩, by decide +kernel⟩
theorem lkX10_251 : LKV "RoadThatSingsModel" 251 "RoadThatSingsModel" yX10_lateOf cX10_lateOf 7 (some (.int)) 2 := ⟨⟨q1464, q1466, qs60, q9, q1467⟩, by decide +kernel⟩
theorem lkX10_257 : LKV "RoadThatSingsModel" 257 "RoadThatSingsModel" yX10_wrongOf cX10_wrongOf 2 (some (.int)) 0 := ⟨⟨q1472, q1474, qs61, q9, q1475⟩, by decide +kernel⟩
theorem lkX10_264 : LKV "RoadThatSingsModel" 264 "RoadThatSingsModel" yX10_cuts cX10_cuts 17 none 2 := ⟨⟨q1488, q1490, qs62, q9, q1491⟩, by decide +kernel⟩
theorem lkX10_268 : LKV "RoadThatSingsModel" 268 "RoadThatSingsModel" yX10_isFit cX10_isFit 5 (some (.boolean)) 2 := ⟨⟨q1502, q1504, qs63, q9, q1505⟩, by decide +kernel⟩
theorem lkX10_271 : LKV "RoadThatSingsModel" 271 "RoadThatSingsModel" yX10_servedBy cX10_servedBy 8 (some (.int)) 2 := ⟨⟨q1514, q1516, qs64, q9, q1517⟩, by decide +kernel⟩
theorem lkX10_274 : LKV "RoadThatSingsModel" 274 "RoadThatSingsModel" yX10_noTen cX10_noTen 2 (some (.int)) 1 := ⟨⟨q1534, q1536, qs65, q9, q1537⟩, by decide +kernel⟩
theorem lkX10_278 : LKV "RoadThatSingsModel" 278 "RoadThatSingsModel" yX10_draw cX10_draw 2 (some (.int)) 1 := ⟨⟨q1558, q1560, qs66, q9, q1561⟩, by decide +kernel⟩
theorem lkX10_284 : LKV "RoadThatSingsModel" 284 "RoadThatSingsModel" yX10_body cX10_body 2 none 1 := ⟨⟨q1575, q1577, qs68, q9, q1578⟩, by decide +kernel⟩
theorem lkX10_288 : LKV "RoadThatSingsModel" 288 "RoadThatSingsModel" yX10_humming cX10_humming 5 (some (.int)) 2 := ⟨⟨q1571, q1573, qs67, q9, q1574⟩, by decide +kernel⟩
theorem lkX10_291 : LKV "RoadThatSingsModel" 291 "RoadThatSingsModel" yX10_lasting cX10_lasting 6 (some (.int)) 2 := ⟨⟨q1579, q1581, qs69, q9, q1582⟩, by decide +kernel⟩
theorem lkX10_294 : LKV "RoadThatSingsModel" 294 "RoadThatSingsModel" yX10_wearing cX10_wearing 6 (some (.int)) 2 := ⟨⟨q1583, q1585, qs70, q9, q1586⟩, by decide +kernel⟩
