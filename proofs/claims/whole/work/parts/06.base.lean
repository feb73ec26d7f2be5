/-! own base: words, nest words, static rows, frame rule in place, short forms of the kit's rows -/
abbrev tyl (cI cJ cS : ClassId) : List (ClassId × FieldType) := [(cI, .int), (cJ, .long), (cS, .object "RoadThatSings$Shelf")]
def NW (U : State) : Prop := (∀ q ∈ NWF, va_Nw (.fieldLinkNest q.1 q.2.1 q.2.2.1 q.2.2.2.1 q.2.2.2.2.1 q.2.2.2.2.2) U) ∧ (∀ q ∈ NWM, va_Nw (.methodLinkNest q.1 q.2.1 q.2.2.1 q.2.2.2) U)
theorem NW.warm {s U : State} (hW : s.WarmedH U.vm) (h : NW s) : NW U := ⟨fun q hq => va_Nw.warmF hW (h.1 q hq), fun q hq => va_Nw.warmM hW (h.2 q hq)⟩
theorem NW.same {u U : State} (e : u.vm = U.vm) (h : NW u) : NW U := ⟨fun q hq => va_Nw.same rfl e (h.1 q hq), fun q hq => va_Nw.same rfl e (h.2 q hq)⟩
def EN (D : va_G) (cI cJ cS : ClassId) (U : State) : Prop := va_K D vwCl (tyl cI cJ cS) U ∧ NW U
theorem EN.warm {D : va_G} {cI cJ cS : ClassId} {s U : State} (hW : s.WarmedH U.vm) (h : EN D cI cJ cS s) : EN D cI cJ cS U := ⟨va_K.moved hW.alike h.1, h.2.warm hW⟩
theorem EN.call {D : va_G} {cI cJ cS : ClassId} {U : State} {g : JFrame} {mk : MethodId} {a : Array Value} (h : EN D cI cJ cS U) : EN D cI cJ cS (U.calling g mk a) := ⟨va_K.moved (u := U) (U := U.calling g mk a) (Vm.Alike.refl U.vm) h.1, NW.same (u := U) (U := U.calling g mk a) rfl h.2⟩
def SA (n : String) (l : List Int32) (A : Nat → Prop) (U : State) (H : Heap) : Prop := ∃ t : Nat, va_Z "RoadThatSings" n "[I" (.ref t) A U H ∧ va_T .int t l.length (fun k => .int (l.getD k 0)) A U H
theorem SA.moved {n : String} {l : List Int32} {A : Nat → Prop} {u U : State} {H : Heap} (hvm : u.vm.Alike U.vm) (h : SA n l A u H) : SA n l A U H := by
  obtain ⟨t, h1, h2⟩ := h
  exact ⟨t, va_Z.moved hvm h1, va_T.moved hvm h2⟩
theorem SA.kept {n : String} {l : List Int32} {A : Nat → Prop} {U : State} {H H1 : Heap} (h : SA n l A U H) (hq : ∀ a : Nat, a < H.size → ¬ A a → H1[a]? = H[a]?) : SA n l A U H1 := by
  obtain ⟨t, h1, h2⟩ := h
  exact ⟨t, h1.kept hq, h2.kept hq⟩
theorem SA.narrow {n : String} {l : List Int32} {A B : Nat → Prop} {U : State} {H : Heap} (h : SA n l A U H) (hAB : ∀ q, B q → A q) : SA n l B U H := by
  obtain ⟨t, h1, h2⟩ := h
  exact ⟨t, h1.narrow hAB, h2.narrow hAB⟩
abbrev tbKIND_ABOVE : List Int32 := [-1, 0, 1, 0, 1, 2, 0]
abbrev tbLEAST_ASKED : List Int32 := [1, 2, 0, 50]
abbrev tbMOST_ASKED : List Int32 := [9999, 30, 500, 2000]
abbrev tbHUMS_BODIES : List Int32 := [10, 20, 0, 0, 0, 41, 70]
abbrev tbLASTS_BODIES : List Int32 := [11, 0, 30, 0, 0, 40, 0]
abbrev tbWEARS_BODIES : List Int32 := [12, 0, 0, 60, 50, 0, 71]
abbrev tbSTEPS : List Int32 := [1000, 1059, 1122, 1189, 1260, 1335, 1414, 1498, 1587, 1682, 1782, 1888]
abbrev tbForm : List Int32 := [0, 0, 0, 0, 0, 0, 1, 2, 3, 4, 4, 4, 4]
abbrev tbNumber : List Int32 := [1, 2, 3, 4, 5, 6, -1, -1, -1, 0, 1, 2, 3]
abbrev tbLen : List Nat := [4, 4, 4, 4, 5, 4, 3, 4, 4, 4, 4, 5, 5]
abbrev tbByt : List (List Int32) := [[101, 118, 101, 110], [112, 97, 105, 114], [114, 101, 115, 116], [100, 101, 101, 112], [115, 108, 97, 110, 116], [116, 111, 108, 100], [99, 97, 114], [116, 117, 110, 101], [110, 111, 116, 101], [108, 111, 110, 103], [110, 101, 97, 114], [98, 111, 114, 110, 101], [116, 101, 109, 112, 111]]
def STL : List (String × List Int32) := [("KIND_ABOVE", tbKIND_ABOVE), ("LEAST_ASKED", tbLEAST_ASKED), ("MOST_ASKED", tbMOST_ASKED), ("HUMS_BODIES", tbHUMS_BODIES), ("LASTS_BODIES", tbLASTS_BODIES), ("WEARS_BODIES", tbWEARS_BODIES), ("STEPS", tbSTEPS)]
/-- the items of books: the array, the constants, their words -/
def ITM (ad adK : Nat → Nat) (A : Nat → Prop) (U : State) (H : Heap) : Prop := ∃ tI : Nat,
  va_Z "RoadThatSings" "ITEMS" "[LRoadThatSings$Item;" (.ref tI) A U H ∧ va_T (.object "RoadThatSings$Item") tI 13 (fun k => .ref (ad k)) A U H ∧ (∀ i, i < 13 → va_O "RoadThatSings$Item" (ad i) A U H) ∧
  va_Ef 13 "RoadThatSings$Item" "form" "I" (fun i => .int (tbForm.getD i 0)) ad A U H ∧ va_Ef 13 "RoadThatSings$Item" "number" "I" (fun i => .int (tbNumber.getD i 0)) ad A U H ∧ va_Ef 13 "RoadThatSings$Item" "word" "Ljava/lang/String;" (fun i => .ref (adK (2 * i))) ad A U H ∧
  vk_S 13 tbLen tbByt (fun i => adK (2 * i)) (fun i => adK (2 * i + 1)) A U H ∧ va_Z "java/lang/String" "COMPACT_STRINGS" "Z" (.int 1) A U H ∧ va_Zq "jdk/internal/util/Preconditions" "SIOOBE_FORMATTER" "Ljava/util/function/BiFunction;" A U H
theorem ITM.moved {ad adK : Nat → Nat} {A : Nat → Prop} {u U : State} {H : Heap} (hvm : u.vm.Alike U.vm) (h : ITM ad adK A u H) : ITM ad adK A U H := by
  obtain ⟨t, h1, h2, h3, h4, h5, h6, h7, h8, h9⟩ := h
  exact ⟨t, va_Z.moved hvm h1, va_T.moved hvm h2, fun i hi => va_O.moved hvm (h3 i hi), va_Ef.moved hvm h4, va_Ef.moved hvm h5, va_Ef.moved hvm h6, vk_S.moved hvm h7, va_Z.moved hvm h8, va_Zq.moved hvm h9⟩
theorem ITM.kept {ad adK : Nat → Nat} {A : Nat → Prop} {U : State} {H H1 : Heap} (h : ITM ad adK A U H) (hq : ∀ a : Nat, a < H.size → ¬ A a → H1[a]? = H[a]?) : ITM ad adK A U H1 := by
  obtain ⟨t, h1, h2, h3, h4, h5, h6, h7, h8, h9⟩ := h
  exact ⟨t, h1.kept hq, h2.kept hq, fun i hi => (h3 i hi).kept hq, h4.kept hq, h5.kept hq, h6.kept hq, h7.kept hq, h8.kept hq, h9.kept hq⟩
theorem ITM.narrow {ad adK : Nat → Nat} {A B : Nat → Prop} {U : State} {H : Heap} (h : ITM ad adK A U H) (hAB : ∀ q, B q → A q) : ITM ad adK B U H := by
  obtain ⟨t, h1, h2, h3, h4, h5, h6, h7, h8, h9⟩ := h
  exact ⟨t, h1.narrow hAB, h2.narrow hAB, fun i hi => (h3 i hi).narrow hAB, h4.narrow hAB, h5.narrow hAB, h6.narrow hAB, h7.narrow hAB, h8.narrow hAB, h9.narrow hAB⟩
def ST (ad adK : Nat → Nat) (A : Nat → Prop) (U : State) (H : Heap) : Prop := (∀ q ∈ STL, SA q.1 q.2 A U H) ∧ ITM ad adK A U H
theorem ST.moved {ad adK : Nat → Nat} {A : Nat → Prop} {u U : State} {H : Heap} (hvm : u.vm.Alike U.vm) (h : ST ad adK A u H) : ST ad adK A U H := ⟨fun q hq => (h.1 q hq).moved hvm, h.2.moved hvm⟩
theorem ST.kept {ad adK : Nat → Nat} {A : Nat → Prop} {U : State} {H H1 : Heap} (h : ST ad adK A U H) (hq : ∀ a : Nat, a < H.size → ¬ A a → H1[a]? = H[a]?) : ST ad adK A U H1 := ⟨fun q h9 => (h.1 q h9).kept hq, h.2.kept hq⟩
theorem ST.narrow {ad adK : Nat → Nat} {A B : Nat → Prop} {U : State} {H : Heap} (h : ST ad adK A U H) (hAB : ∀ q, B q → A q) : ST ad adK B U H := ⟨fun q h9 => (h.1 q h9).narrow hAB, h.2.narrow hAB⟩
def nof : Addr → Prop := fun _ => False
theorem ST.ro {ad adK : Nat → Nat} {A : Nat → Prop} {s : State} {H : Heap} {locs : List Loc} (hT : ST ad adK A s s.heap) (hS : va_S A s.heap H locs) : ST ad adK nof s H := (hT.kept hS.2.1).narrow (fun _ h => h.elim)
/-- what holds at the start of a method that writes nothing; of one that may write the cells of ws -/
def PR (D : va_G) (cI cJ cS : ClassId) (ad adK : Nat → Nat) (av : List Value) (ws : va_W) : Array Value → State → Prop := va_Pc av (fun U => EN D cI cJ cS U ∧ ST ad adK nof U U.heap ∧ va_P D vwCl ws U.heap)
def PW (D : va_G) (cI cJ cS : ClassId) (ad adK : Nat → Nat) (av : List Value) (ws : va_W) (sz : Nat) : Array Value → State → Prop := va_Pc av (fun U => U.heap.size = sz ∧ EN D cI cJ cS U ∧ ST ad adK (va_A ws sz) U U.heap ∧ va_P D vwCl ws U.heap ∧ va_D (fun _ => True) ws)
theorem PR.blind {D : va_G} {cI cJ cS : ClassId} {ad adK : Nat → Nat} {av : List Value} {ws : va_W} : FrameBlind (PR D cI cJ cS ad adK av ws) := fun a U g mk h => ⟨h.1, h.2.1.call, ST.moved (u := U) (U := U.calling g mk a) (Vm.Alike.refl U.vm) h.2.2.1, h.2.2.2⟩
theorem PW.blind {D : va_G} {cI cJ cS : ClassId} {ad adK : Nat → Nat} {av : List Value} {ws : va_W} {sz : Nat} : FrameBlind (PW D cI cJ cS ad adK av ws sz) := fun a U g mk h => ⟨h.1, h.2.1, h.2.2.1.call, ST.moved (u := U) (U := U.calling g mk a) (Vm.Alike.refl U.vm) h.2.2.2.1, h.2.2.2.2⟩
theorem PR.pre {D : va_G} {cI cJ cS : ClassId} {ad adK : Nat → Nat} {av : List Value} {ws : va_W} {s : State} {H : Heap} (hE : EN D cI cJ cS s) (hT : ST ad adK nof s H) (hP : va_P D vwCl ws H) : ∀ U : State, U.heap = H → s.WarmedH U.vm → PR D cI cJ cS ad adK av ws av.toArray U := fun U hU hW => ⟨rfl, hE.warm hW, by rw [hU]; exact hT.moved hW.alike, by rw [hU]; exact hP⟩
theorem PW.pre {D : va_G} {cI cJ cS : ClassId} {ad adK : Nat → Nat} {av : List Value} {ws : va_W} {s : State} {H : Heap} (hE : EN D cI cJ cS s) (hT : ST ad adK (va_A ws H.size) s H) (hP : va_P D vwCl ws H) (hD : va_D (fun _ => True) ws) : ∀ U : State, U.heap = H → s.WarmedH U.vm → PW D cI cJ cS ad adK av ws H.size av.toArray U := fun U hU hW => ⟨rfl, by rw [hU], hE.warm hW, by rw [hU]; exact hT.moved hW.alike, by rw [hU]; exact hP, hD⟩
abbrev rmd (d mc ms : Nat) : Room := { frames := d, cells := mc, slots := ms, locals := 60 * d }
/-! links -/
def LKV (own : String) (idx : Nat) (C : String) (y : MethodName) (bytes : ByteArray) (maxL : Nat) (ret : Option FieldType) (n : Nat) : Prop := (Cond.methodLink own idx y ∈ GW ∧ Cond.instanceMethod y ∈ GW ∧ Cond.selects C y y ∈ GW ∧ Cond.initialized C ∈ GW ∧ Cond.code y bytes maxL ret ∈ GW) ∧ (y.cls = C ∧ y.cls ≠ "java/lang/invoke/MethodHandle" ∧ y.cls ≠ "java/lang/invoke/VarHandle" ∧ (parseMethodDescriptor y.desc).map (fun d => d.parameters.length) = some n)
def LKS (own : String) (idx : Nat) (y : MethodName) (bytes : ByteArray) (maxL : Nat) (ret : Option FieldType) (n : Nat) : Prop := (Cond.methodLink own idx y ∈ GW ∧ Cond.static y ∈ GW ∧ Cond.initialized y.cls ∈ GW ∧ Cond.code y bytes maxL ret ∈ GW) ∧ (y.cls ≠ "java/lang/invoke/MethodHandle" ∧ y.cls ≠ "java/lang/invoke/VarHandle" ∧ (parseMethodDescriptor y.desc).map (fun d => d.parameters.length) = some n)
def LKN (own : String) (idx : Nat) (y : MethodName) (host : String) (bytes : ByteArray) (maxL : Nat) (ret : Option FieldType) (n : Nat) : Prop := ((own, idx, y, host) ∈ NWM ∧ Cond.static y ∈ GW ∧ Cond.initialized y.cls ∈ GW ∧ Cond.code y bytes maxL ret ∈ GW) ∧ (y.cls ≠ "java/lang/invoke/MethodHandle" ∧ y.cls ≠ "java/lang/invoke/VarHandle" ∧ (parseMethodDescriptor y.desc).map (fun d => d.parameters.length) = some n)
theorem gw_in {w : Cond} (h : w ∈ GW) : w ∈ GW ∧ ((w.onTables && w.keeps) = true ∨ ∃ ty, w = .arrayClass ty) := ⟨h, good_of_word (gw_good _ h)⟩
theorem gw_code {y : MethodName} {bytes : ByteArray} {maxL : Nat} {ret : Option FieldType} (h : Cond.code y bytes maxL ret ∈ GW) : GoodIn GW (Cond.code y bytes maxL ret :: GW) := by
  intro w hw
  rcases List.mem_cons.mp hw with rfl | hw
  · exact gw_in h
  · exact gw_in hw
theorem LKV.good {own C : String} {idx maxL n : Nat} {y : MethodName} {bytes : ByteArray} {ret : Option FieldType} (h : LKV own idx C y bytes maxL ret n) : GoodIn GW (wsV own idx C y (Cond.code y bytes maxL ret :: GW)) := by
  intro w hw
  obtain ⟨⟨h1, h2, h3, h4, h5⟩, -⟩ := h
  rcases List.mem_append.mp hw with hw | hw
  · simp only [List.mem_cons, List.not_mem_nil, or_false] at hw
    rcases hw with rfl | rfl | rfl | rfl
    · exact gw_in h1
    · exact gw_in h2
    · exact gw_in h3
    · exact gw_in h4
  · exact gw_code h5 w hw
theorem LKS.good {own : String} {idx maxL n : Nat} {y : MethodName} {bytes : ByteArray} {ret : Option FieldType} (h : LKS own idx y bytes maxL ret n) : GoodIn GW (va_wsS own idx y (Cond.code y bytes maxL ret :: GW)) := by
  intro w hw
  obtain ⟨⟨h1, h2, h3, h4⟩, -⟩ := h
  rcases List.mem_append.mp hw with hw | hw
  · simp only [List.mem_cons, List.not_mem_nil, or_false] at hw
    rcases hw with rfl | rfl | rfl
    · exact gw_in h1
    · exact gw_in h2
    · exact gw_in h3
  · exact gw_code h4 w hw
/-! the frame rule in place -/
def wset (ws : va_W) : List Nat → va_W → va_W
  | i :: is, q :: qs => wset (ws.set i q) is qs
  | _, _ => ws
theorem wset_get : ∀ (is : List Nat) (w1 ws : va_W) (k : Nat) (q : Nat × va_E), va_nd is = true → is.length = w1.length → (∀ i ∈ is, i < ws.length) → (wset ws is w1)[k]? = some q → (∃ j : Nat, is[j]? = some k ∧ w1[j]? = some q) ∨ (k ∉ is ∧ ws[k]? = some q)
  | [], w1, ws, k, q, _, _, _, h => by
    cases w1 <;> exact Or.inr ⟨List.not_mem_nil, h⟩
  | i :: is, [], ws, k, q, _, hl, _, _ => by cases hl
  | i :: is, q0 :: w1, ws, k, q, hn, hl, hb, h => by
    simp only [va_nd, Bool.and_eq_true, decide_eq_true_eq] at hn
    have h1 : (wset (ws.set i q0) is w1)[k]? = some q := h
    rcases wset_get is w1 (ws.set i q0) k q hn.2 (Nat.succ.inj hl) (fun j hj => by rw [List.length_set]; exact hb j (List.mem_cons_of_mem _ hj)) h1 with ⟨j, h2, h3⟩ | ⟨h2, h3⟩
    · exact Or.inl ⟨j + 1, h2, h3⟩
    · by_cases hk : k = i
      · subst hk
        rw [List.getElem?_set_self (hb k List.mem_cons_self)] at h3
        exact Or.inl ⟨0, rfl, h3⟩
      · rw [List.getElem?_set_ne (Ne.symm hk)] at h3
        refine Or.inr ⟨fun hm => ?_, h3⟩
        rcases List.mem_cons.mp hm with e | e
        · exact hk e
        · exact h2 e
theorem wset_ok {A0 : Nat → Prop} {D : va_G} {cl : List vw_C} {ws wc w1 : va_W} {H H1 : Heap} (hP : va_P D cl ws H) (hD : va_D A0 ws) (is : List Nat) (hC : is.map (fun i => ws[i]?) = wc.map some) (hn : va_nd is = true) (hk : ∀ q : Nat, q < H.size → ¬ va_A wc H.size q → H1[q]? = H[q]?) (hB : va_P D cl w1 H1) (hw : w1.map (·.1) = wc.map (·.1)) : va_P D cl (wset ws is w1) H1 ∧ va_D A0 (wset ws is w1) := by
  have at' : ∀ (k : Nat) (q : Nat × va_E), wc[k]? = some q → ∃ i, is[k]? = some i ∧ ws[i]? = some q := by
    intro k q hq
    have h1 : (is.map (fun i => ws[i]?))[k]? = some (some q) := by rw [hC, List.getElem?_map, hq]; rfl
    rw [List.getElem?_map] at h1
    cases hi : is[k]? with
    | none => rw [hi] at h1; cases h1
    | some i => rw [hi] at h1; exact ⟨i, rfl, Option.some.inj h1⟩
  have hlc : is.length = wc.length := by simpa using congrArg List.length hC
  have hlw : w1.length = wc.length := by simpa using congrArg List.length hw
  have hlen : is.length = w1.length := hlc.trans hlw.symm
  have hb : ∀ i ∈ is, i < ws.length := by
    intro i hi
    obtain ⟨k, hk1⟩ := List.getElem?_of_mem hi
    have hkl : k < wc.length := hlc ▸ (List.getElem?_eq_some_iff.mp hk1).1
    obtain ⟨j, h1, h2⟩ := at' k _ (List.getElem?_eq_getElem hkl)
    rw [hk1] at h1
    cases h1
    exact (List.getElem?_eq_some_iff.mp h2).1
  have key : ∀ (j k : Nat) (q : Nat × va_E), is[j]? = some k → w1[j]? = some q → ∃ q0, wc[j]? = some q0 ∧ ws[k]? = some q0 ∧ q0.1 = q.1 := by
    intro j k q h1 h2
    have h3 : (wc.map (·.1))[j]? = some q.1 := by rw [← hw, List.getElem?_map, h2]; rfl
    rw [List.getElem?_map] at h3
    cases hc : wc[j]? with
    | none => rw [hc] at h3; cases h3
    | some q0 =>
      rw [hc] at h3
      obtain ⟨i, g1, g2⟩ := at' j q0 hc
      rw [h1] at g1
      cases g1
      exact ⟨q0, rfl, g2, Option.some.inj h3⟩
  have old : ∀ (k : Nat) (q : Nat × va_E), (wset ws is w1)[k]? = some q → ∃ q0, ws[k]? = some q0 ∧ q0.1 = q.1 := by
    intro k q h
    rcases wset_get is w1 ws k q hn hlen hb h with ⟨j, h1, h2⟩ | ⟨-, h2⟩
    · obtain ⟨q0, -, h4, h5⟩ := key j k q h1 h2
      exact ⟨q0, h4, h5⟩
    · exact ⟨q, h2, rfl⟩
  refine ⟨fun k q h => ?_, fun i j x y hi hj hxy => ?_, fun k q h => ?_⟩
  · rcases wset_get is w1 ws k q hn hlen hb h with ⟨j, -, h2⟩ | ⟨h1, h2⟩
    · exact hB j q h2
    · refine (hP k q h2).kept (hk q.1 (hP k q h2).lt (fun hA => ?_))
      rcases hA with ⟨k2, e, h⟩ | h
      · obtain ⟨i, h3, h4⟩ := at' k2 (q.1, e) h
        have hik := hD.1 k i q (q.1, e) h2 h4 rfl
        subst hik
        exact h1 (List.mem_of_getElem? h3)
      · exact absurd (hP k q h2).lt (Nat.not_lt.mpr h)
  · obtain ⟨x0, h1, h2⟩ := old i x hi
    obtain ⟨y0, h3, h4⟩ := old j y hj
    exact hD.1 i j x0 y0 h1 h3 (h2.trans (hxy.trans h4.symm))
  · obtain ⟨q0, h1, h2⟩ := old k q h
    rw [← h2]
    exact hD.2 k q0 h1
/-! calls -/
section CALLS
variable {p : Program} {l : Launch} {e : Env} {R : Room} {s : State} {m : MethodId} {args : Array Value} {below : List Frame} {meth : Method} {c : Code} {H : Heap} {locs : List Loc} {cells slots : Nat} {Q : State → Prop}
variable {pc : Nat} {ls : Array Slot} {rest st : List Value} {A : Nat → Prop} {D : va_G} {cI cJ cS : ClassId} {ad adK : Nat → Nat} {ws wc : va_W}
variable {y : MethodName} {bytes cc : ByteArray} {maxL nL n index d mc ms b ci N : Nat} {ret : Option FieldType} {Qc : Array Value → State → Outcome → State → Prop} {free : Addr → Prop} {own C host : String} {T : u_T} {As fs : List Value}
theorem roV (S : CallFix p m c cc nL s args GW own) (hE : EN D cI cJ cS s) (hT : ST ad adK A s s.heap) (hS : va_S A s.heap H locs) (hM : Met l y (Cond.code y bytes maxL ret :: GW) (rmd d 0 0) (PR D cI cJ cS ad adK (.ref b :: As) wc) Qc 0 0 free) (L : LKV own index C y bytes maxL ret n) (hn : As.length = n) (hR : d + 1 ≤ R.frames ∧ 8 + (maxL + 11) + 60 * d ≤ R.locals) (hP : va_P D vwCl wc H) (q0 : Nat) (hr : wc[q0]? = some (b, .inr (ci, fs))) (hc : vwCl[ci]? = some (C, T, N)) (hsize : ls.size = nL) (hst : st = As.reverse ++ .ref b :: rest) (hW : (rest.map fun v => v.category).sum ≤ 8) (hdg : decode cc pc = .ok (.invokevirtual index, 3)) (hf : cells ≤ R.cells ∧ slots ≤ R.slots) :
    va_Run p l e R s m args below meth c H locs cells slots 0 0 (F0 m pc ls st) rest (Qc (Value.ref b :: As).toArray) free :=
  va_runV S hM (cwV n S.2.2.2.2 L.good rfl rfl rfl L.2 hR) ⟨PR.blind, va_recv hE.1 hP hc hr, PR.pre hE (hT.ro hS) hP⟩ rfl hn hsize hst (lv_room (m := m) (pc := pc) (ls := ls) (rest := st) hW) hdg hf
theorem roS (S : CallFix p m c cc nL s args GW own) (hE : EN D cI cJ cS s) (hT : ST ad adK A s s.heap) (hS : va_S A s.heap H locs) (hM : Met l y (Cond.code y bytes maxL ret :: GW) (rmd d 0 0) (PR D cI cJ cS ad adK As wc) Qc 0 0 free) (L : LKS own index y bytes maxL ret n) (hn : As.length = n) (hR : d + 1 ≤ R.frames ∧ 8 + (maxL + 11) + 60 * d ≤ R.locals) (hP : va_P D vwCl wc H) (hsize : ls.size = nL) (hst : st = As.reverse ++ rest) (hW : (rest.map fun v => v.category).sum ≤ 8) (hdg : decode cc pc = .ok (.invokestatic index, 3)) (hf : cells ≤ R.cells ∧ slots ≤ R.slots) :
    va_Run p l e R s m args below meth c H locs cells slots 0 0 (F0 m pc ls st) rest (Qc As.toArray) free :=
  va_runS S hM (va_cwS n S.2.2.2.2 L.good rfl rfl rfl L.2 hR) ⟨PR.blind, PR.pre hE (hT.ro hS) hP⟩ rfl hn hsize hst (lv_room (m := m) (pc := pc) (ls := ls) (rest := st) hW) hdg hf
theorem roSN (S : CallFix p m c cc nL s args GW own) (hE : EN D cI cJ cS s) (hT : ST ad adK A s s.heap) (hS : va_S A s.heap H locs) (hM : Met l y (Cond.code y bytes maxL ret :: GW) (rmd d 0 0) (PR D cI cJ cS ad adK As wc) Qc 0 0 free) (L : LKN own index y host bytes maxL ret n) (hn : As.length = n) (hR : d + 1 ≤ R.frames ∧ 8 + (maxL + 11) + 60 * d ≤ R.locals) (hP : va_P D vwCl wc H) (hsize : ls.size = nL) (hst : st = As.reverse ++ rest) (hW : (rest.map fun v => v.category).sum ≤ 8) (hdg : decode cc pc = .ok (.invokestatic index, 3)) (hf : cells ≤ R.cells ∧ slots ≤ R.slots) :
    va_Run p l e R s m args below meth c H locs cells slots 0 0 (F0 m pc ls st) rest (Qc As.toArray) free :=
  va_runSN S hM ⟨va_cnB n S.2.2.2.2 (gw_code L.1.2.2.2) rfl rfl rfl (hE.2.2 _ L.1.1) (S.2.2.2.2 _ L.1.2.2.1) L.2 hR, S.2.2.2.2 _ L.1.2.1, trivial⟩ ⟨PR.blind, PR.pre hE (hT.ro hS) hP⟩ rfl hn hsize hst (lv_room (m := m) (pc := pc) (ls := ls) (rest := st) hW) hdg hf
/-- the callee's cells, cut out for a call that may write them -/
theorem PW.cut (hE : EN D cI cJ cS s) (hT : ST ad adK A s s.heap) (hS : va_S A s.heap H locs) (hP : va_P D vwCl ws H) (hD : va_D A ws) (hA : ∀ q : Nat, s.heap.size ≤ q → A q) (is : List Nat) (hC : is.map (fun i => ws[i]?) = wc.map some) (hnd : va_nd is = true) {av : List Value} : ∀ U : State, U.heap = H → s.WarmedH U.vm → PW D cI cJ cS ad adK av wc H.size av.toArray U := by
  have h1 : va_P D vwCl wc H := by
    intro k q hq
    have h1 : (is.map (fun i => ws[i]?))[k]? = some (some q) := by rw [hC, List.getElem?_map, hq]; rfl
    rw [List.getElem?_map] at h1
    cases hi : is[k]? with
    | none => rw [hi] at h1; cases h1
    | some i => rw [hi] at h1; exact hP i q (Option.some.inj h1)
  exact PW.pre hE ((hT.kept hS.2.1).narrow (va_free hD hS hA is hC)) h1 ((hD.sub is hnd hC).weaken (fun _ _ _ _ => trivial))
theorem rwV (S : CallFix p m c cc nL s args GW own) (hE : EN D cI cJ cS s) (hT : ST ad adK A s s.heap) (hS : va_S A s.heap H locs) (hP : va_P D vwCl ws H) (hD : va_D A ws) (hA : ∀ q : Nat, s.heap.size ≤ q → A q) (hM : Met l y (Cond.code y bytes maxL ret :: GW) (rmd d mc ms) (PW D cI cJ cS ad adK (.ref b :: As) wc H.size) Qc mc ms free) (is : List Nat) (hC : is.map (fun i => ws[i]?) = wc.map some) (hnd : va_nd is = true) (L : LKV own index C y bytes maxL ret n) (hn : As.length = n) (hR : d + 1 ≤ R.frames ∧ 8 + (maxL + 11) + 60 * d ≤ R.locals) (q0 : Nat) (hr : ws[q0]? = some (b, .inr (ci, fs))) (hc : vwCl[ci]? = some (C, T, N)) (hsize : ls.size = nL) (hst : st = As.reverse ++ .ref b :: rest) (hW : (rest.map fun v => v.category).sum ≤ 8) (hdg : decode cc pc = .ok (.invokevirtual index, 3)) (hf : cells + mc ≤ R.cells ∧ slots + ms ≤ R.slots) :
    va_Run p l e R s m args below meth c H locs cells slots mc ms (F0 m pc ls st) rest (Qc (Value.ref b :: As).toArray) free :=
  va_runV S hM (cwV n S.2.2.2.2 L.good rfl rfl rfl L.2 hR) ⟨PW.blind, va_recv hE.1 hP hc hr, PW.cut hE hT hS hP hD hA is hC hnd⟩ rfl hn hsize hst (lv_room (m := m) (pc := pc) (ls := ls) (rest := st) hW) hdg hf
theorem rwS (S : CallFix p m c cc nL s args GW own) (hE : EN D cI cJ cS s) (hT : ST ad adK A s s.heap) (hS : va_S A s.heap H locs) (hP : va_P D vwCl ws H) (hD : va_D A ws) (hA : ∀ q : Nat, s.heap.size ≤ q → A q) (hM : Met l y (Cond.code y bytes maxL ret :: GW) (rmd d mc ms) (PW D cI cJ cS ad adK As wc H.size) Qc mc ms free) (is : List Nat) (hC : is.map (fun i => ws[i]?) = wc.map some) (hnd : va_nd is = true) (L : LKS own index y bytes maxL ret n) (hn : As.length = n) (hR : d + 1 ≤ R.frames ∧ 8 + (maxL + 11) + 60 * d ≤ R.locals) (hsize : ls.size = nL) (hst : st = As.reverse ++ rest) (hW : (rest.map fun v => v.category).sum ≤ 8) (hdg : decode cc pc = .ok (.invokestatic index, 3)) (hf : cells + mc ≤ R.cells ∧ slots + ms ≤ R.slots) :
    va_Run p l e R s m args below meth c H locs cells slots mc ms (F0 m pc ls st) rest (Qc As.toArray) free :=
  va_runS S hM (va_cwS n S.2.2.2.2 L.good rfl rfl rfl L.2 hR) ⟨PW.blind, PW.cut hE hT hS hP hD hA is hC hnd⟩ rfl hn hsize hst (lv_room (m := m) (pc := pc) (ls := ls) (rest := st) hW) hdg hf
theorem rwSN (S : CallFix p m c cc nL s args GW own) (hE : EN D cI cJ cS s) (hT : ST ad adK A s s.heap) (hS : va_S A s.heap H locs) (hP : va_P D vwCl ws H) (hD : va_D A ws) (hA : ∀ q : Nat, s.heap.size ≤ q → A q) (hM : Met l y (Cond.code y bytes maxL ret :: GW) (rmd d mc ms) (PW D cI cJ cS ad adK As wc H.size) Qc mc ms free) (is : List Nat) (hC : is.map (fun i => ws[i]?) = wc.map some) (hnd : va_nd is = true) (L : LKN own index y host bytes maxL ret n) (hn : As.length = n) (hR : d + 1 ≤ R.frames ∧ 8 + (maxL + 11) + 60 * d ≤ R.locals) (hsize : ls.size = nL) (hst : st = As.reverse ++ rest) (hW : (rest.map fun v => v.category).sum ≤ 8) (hdg : decode cc pc = .ok (.invokestatic index, 3)) (hf : cells + mc ≤ R.cells ∧ slots + ms ≤ R.slots) :
    va_Run p l e R s m args below meth c H locs cells slots mc ms (F0 m pc ls st) rest (Qc As.toArray) free :=
  va_runSN S hM ⟨va_cnB n S.2.2.2.2 (gw_code L.1.2.2.2) rfl rfl rfl (hE.2.2 _ L.1.1) (S.2.2.2.2 _ L.1.2.2.1) L.2 hR, S.2.2.2.2 _ L.1.2.1, trivial⟩ ⟨PW.blind, PW.cut hE hT hS hP hD hA is hC hnd⟩ rfl hn hsize hst (lv_room (m := m) (pc := pc) (ls := ls) (rest := st) hW) hdg hf
variable {a : Array Value} {st0 : List Value}
theorem ro_i {post : Int32 → Prop} (hr : va_Run p l e R s m args below meth c H locs cells slots 0 0 (F0 m pc ls st0) rest (vp_Si post a) nof) (kk : ∀ r : Int32, post r → W p l e R s m args below meth c H locs cells slots Q (F0 m (pc + 3) ls (.int r :: rest))) : W p l e R s m args below meth c H locs cells slots Q (F0 m pc ls st0) := by
  intro T hT X
  obtain ⟨v, st₀, t, T', L, h0, X', hL, e1, -, ⟨r, hv, hp, hh⟩, st⟩ := hr T hT X
  cases hv
  obtain ⟨t2, a1, b1⟩ := kk r hp T' (by rw [e1, hh, h0]) (Stand.forget X' (fun q h => (hL q h).elim))
  exact ⟨t2, st t2 a1, b1⟩
theorem ro_l {post : Int64 → Prop} (hr : va_Run p l e R s m args below meth c H locs cells slots 0 0 (F0 m pc ls st0) rest (vp_Sl post a) nof) (kk : ∀ r : Int64, post r → W p l e R s m args below meth c H locs cells slots Q (F0 m (pc + 3) ls (.long r :: rest))) : W p l e R s m args below meth c H locs cells slots Q (F0 m pc ls st0) := by
  intro T hT X
  obtain ⟨v, st₀, t, T', L, h0, X', hL, e1, -, ⟨r, hv, hp, hh⟩, st⟩ := hr T hT X
  cases hv
  obtain ⟨t2, a1, b1⟩ := kk r hp T' (by rw [e1, hh, h0]) (Stand.forget X' (fun q h => (hL q h).elim))
  exact ⟨t2, st t2 a1, b1⟩
/-- an answer that is null or one of the shelves -/
theorem ro_s {sa : Nat → Nat} {kn : Prop} {ks : Nat → Prop} (hr : va_Run p l e R s m args below meth c H locs cells slots 0 0 (F0 m pc ls st0) rest (va_Sq (fun r => (r = none ∧ kn) ∨ ∃ j, j < 8 ∧ r = some (sa j) ∧ ks j) a) nof) (k0 : kn → W p l e R s m args below meth c H locs cells slots Q (F0 m (pc + 3) ls (.null :: rest))) (k1 : ∀ j : Nat, j < 8 → ks j → W p l e R s m args below meth c H locs cells slots Q (F0 m (pc + 3) ls (.ref (sa j) :: rest))) : W p l e R s m args below meth c H locs cells slots Q (F0 m pc ls st0) := by
  intro T hT X
  obtain ⟨v, st₀, t, T', L, h0, X', hL, e1, -, ⟨r, hv, hp, hh⟩, st⟩ := hr T hT X
  cases hv
  rcases hp with ⟨rfl, hp⟩ | ⟨j, hj, rfl, hp⟩
  · obtain ⟨t2, a1, b1⟩ := k0 hp T' (by rw [e1, hh, h0]) (Stand.forget X' (fun q h => (hL q h).elim))
    exact ⟨t2, st t2 a1, b1⟩
  · obtain ⟨t2, a1, b1⟩ := k1 j hj hp T' (by rw [e1, hh, h0]) (Stand.forget X' (fun q h => (hL q h).elim))
    exact ⟨t2, st t2 a1, b1⟩
theorem rw_i {Sg : Type} {post : Int32 → Sg → Prop} {w1 : Sg → va_W} (hr : va_Run p l e R s m args below meth c H locs cells slots mc ms (F0 m pc ls st0) rest (va_Qi post (fun u t => va_P D vwCl (w1 u) t.heap) (va_A wc H.size) a) (va_A wc H.size)) (hP : va_P D vwCl ws H) (hD : va_D A ws) (hS : va_S A s.heap H locs) (hA : ∀ q : Nat, s.heap.size ≤ q → A q) (is : List Nat) (hC : is.map (fun i => ws[i]?) = wc.map some) (hnd : va_nd is = true) (hw1 : ∀ u, (w1 u).map (·.1) = wc.map (·.1)) (kk : ∀ (r : Int32) (u : Sg) (H1 : Heap) (locs1 : List Loc), post r u → va_P D vwCl (wset ws is (w1 u)) H1 → va_D A (wset ws is (w1 u)) → va_S A s.heap H1 locs1 → W p l e R s m args below meth c H1 locs1 (cells + mc) (slots + ms) Q (F0 m (pc + 3) ls (.int r :: rest))) : W p l e R s m args below meth c H locs cells slots Q (F0 m pc ls st0) := by
  have hF := va_free hD hS hA is hC
  refine va_calli hr hS (fun q _ h => hF q h) hF (fun r u t H1 locs1 ht hvm hp hB hz hk hS1 => ?_)
  rw [ht] at hB
  obtain ⟨h1, h2⟩ := wset_ok hP hD is hC hnd hk hB (hw1 u)
  exact kk r u H1 locs1 hp h1 h2 hS1
theorem rw_v {Sg : Type} {post : Sg → Prop} {w1 : Sg → va_W} (hr : va_Run p l e R s m args below meth c H locs cells slots mc ms (F0 m pc ls st0) rest (va_Qv post (fun u t => va_P D vwCl (w1 u) t.heap) (va_A wc H.size) a) (va_A wc H.size)) (hP : va_P D vwCl ws H) (hD : va_D A ws) (hS : va_S A s.heap H locs) (hA : ∀ q : Nat, s.heap.size ≤ q → A q) (is : List Nat) (hC : is.map (fun i => ws[i]?) = wc.map some) (hnd : va_nd is = true) (hw1 : ∀ u, (w1 u).map (·.1) = wc.map (·.1)) (kk : ∀ (u : Sg) (H1 : Heap) (locs1 : List Loc), post u → va_P D vwCl (wset ws is (w1 u)) H1 → va_D A (wset ws is (w1 u)) → va_S A s.heap H1 locs1 → W p l e R s m args below meth c H1 locs1 (cells + mc) (slots + ms) Q (F0 m (pc + 3) ls rest)) : W p l e R s m args below meth c H locs cells slots Q (F0 m pc ls st0) := by
  have hF := va_free hD hS hA is hC
  refine va_callv hr hS (fun q _ h => hF q h) hF (fun u t H1 locs1 ht hvm hp hB hz hk hS1 => ?_)
  rw [ht] at hB
  obtain ⟨h1, h2⟩ := wset_ok hP hD is hC hnd hk hB (hw1 u)
  exact kk u H1 locs1 hp h1 h2 hS1
/-! fields and arrays -/
theorem gf (S : CallFix p m c cc nL s args GW own) (hE : EN D cI cJ cS s) (hP : va_P D vwCl ws H) (q0 : Nat) {a k : Nat} {v : Value} (he : ws[q0]? = some (a, .inr (ci, fs))) (hc : vwCl[ci]? = some (C, T, N)) (hin : ∀ w ∈ u_ws C T N, w ∈ GW) (hk : k < N) (hlink : Cond.fieldLink own index (T k).1 (T k).2.1 (T k).2.2.1 ∈ GW) (hv : fs[k]? = some v) (hdg : decode cc pc = .ok (.getfield index, 3)) (kk : W p l e R s m args below meth c H locs cells slots Q (F0 m (pc + 3) ls (v :: rest))) : W p l e R s m args below meth c H locs cells slots Q (F0 m pc ls (.ref a :: rest)) :=
  va_get S.1 S.2.1 S.2.2.2.2 hin S.2.2.2.1 hE.1 hP q0 he hc k hk (S.2.2.2.2 _ hlink) (fun _ h => h) hv hdg kk
theorem gfN (S : CallFix p m c cc nL s args GW own) (hE : EN D cI cJ cS s) (hP : va_P D vwCl ws H) (q0 : Nat) {a k : Nat} {v : Value} (he : ws[q0]? = some (a, .inr (ci, fs))) (hc : vwCl[ci]? = some (C, T, N)) (hin : ∀ w ∈ u_ws C T N, w ∈ GW) (hk : k < N) (hlink : (own, index, (T k).1, (T k).2.1, (T k).2.2.1, host) ∈ NWF) (hv : fs[k]? = some v) (hdg : decode cc pc = .ok (.getfield index, 3)) (kk : W p l e R s m args below meth c H locs cells slots Q (F0 m (pc + 3) ls (v :: rest))) : W p l e R s m args below meth c H locs cells slots Q (F0 m pc ls (.ref a :: rest)) :=
  va_getN S.1 S.2.1 S.2.2.2.2 hin S.2.2.2.1 hE.1 hP q0 he hc k hk (va_Nw.use rfl (hE.2.1 _ hlink)) (fun _ h => h) hv hdg kk
theorem pf (S : CallFix p m c cc nL s args GW own) (hE : EN D cI cJ cS s) (hP : va_P D vwCl ws H) (hD : va_D A ws) (hS : va_S A s.heap H locs) (q0 : Nat) {a k : Nat} {v : Value} {tyo : Nat → FieldType} (he : ws[q0]? = some (a, .inr (ci, fs))) (hc : vwCl[ci]? = some (C, T, N)) (hin : ∀ w ∈ u_ws C T N, w ∈ GW) (hty : ∀ k, k < N → parseFieldDescriptor (T k).2.2.1 = some (tyo k)) (hnm : ∀ a, a < N → ∀ b, b < N → a ≠ b → (T a).2.1 ≠ (T b).2.1) (hk : k < N) (hlink : Cond.fieldLink own index (T k).1 (T k).2.1 (T k).2.2.1 ∈ GW) (hfin : (T k).2.2.2 = false) (hn : narrow (tyo k) v = v) (hfit : fits (tyo k) v = true) (hl : k < fs.length) (hdg : decode cc pc = .ok (.putfield index, 3)) (kk : ∀ (H1 : Heap) (locs1 : List Loc), va_P D vwCl (ws.set q0 (a, .inr (ci, fs.set k v))) H1 → va_D A (ws.set q0 (a, .inr (ci, fs.set k v))) → va_S A s.heap H1 locs1 → W p l e R s m args below meth c H1 locs1 cells slots Q (F0 m (pc + 3) ls rest)) : W p l e R s m args below meth c H locs cells slots Q (F0 m pc ls (v :: .ref a :: rest)) :=
  va_put S.1 S.2.1 S.2.2.2.2 hin tyo hty hnm S.2.2.2.1 hE.1 hP hD hS q0 he hc k hk (S.2.2.2.2 _ hlink) (fun _ h => h) hfin (hty k hk) hn hfit hl hdg kk
theorem ial (S : CallFix p m c cc nL s args GW own) (hE : EN D cI cJ cS s) (hP : va_P D vwCl ws H) (q0 : Nat) {a n : Nat} {f : Nat → Int32} (ha : ws[q0]? = some (a, .inl (cI, n, .inl f))) {i : Int32} (hin : vp_in i n) (hdg : decode cc pc = .ok (.iaload, 1)) (kk : W p l e R s m args below meth c H locs cells slots Q (F0 m (pc + 1) ls (.int (f i.toNatClampNeg) :: rest))) : W p l e R s m args below meth c H locs cells slots Q (F0 m pc ls (.int i :: .ref a :: rest)) :=
  va_iald S.1 S.2.1 hE.1 hP q0 0 ha rfl hin hdg kk
theorem lal (S : CallFix p m c cc nL s args GW own) (hE : EN D cI cJ cS s) (hP : va_P D vwCl ws H) (q0 : Nat) {a n : Nat} {f : Nat → Int64} (ha : ws[q0]? = some (a, .inl (cJ, n, .inr (.inl f)))) {i : Int32} (hin : vp_in i n) (hdg : decode cc pc = .ok (.laload, 1)) (kk : W p l e R s m args below meth c H locs cells slots Q (F0 m (pc + 1) ls (.long (f i.toNatClampNeg) :: rest))) : W p l e R s m args below meth c H locs cells slots Q (F0 m pc ls (.int i :: .ref a :: rest)) :=
  va_lald S.1 S.2.1 hE.1 hP q0 1 ha rfl hin hdg kk
theorem ias (S : CallFix p m c cc nL s args GW own) (hE : EN D cI cJ cS s) (hP : va_P D vwCl ws H) (hD : va_D A ws) (hS : va_S A s.heap H locs) (q0 : Nat) {a n : Nat} {f : Nat → Int32} (ha : ws[q0]? = some (a, .inl (cI, n, .inl f))) {i x : Int32} (hin : vp_in i n) (hdg : decode cc pc = .ok (.iastore, 1)) (kk : ∀ (H1 : Heap) (locs1 : List Loc), va_P D vwCl (ws.set q0 (a, .inl (cI, n, .inl (upd f i.toNatClampNeg x)))) H1 → va_D A (ws.set q0 (a, .inl (cI, n, .inl (upd f i.toNatClampNeg x)))) → va_S A s.heap H1 locs1 → W p l e R s m args below meth c H1 locs1 cells slots Q (F0 m (pc + 1) ls rest)) : W p l e R s m args below meth c H locs cells slots Q (F0 m pc ls (.int x :: .int i :: .ref a :: rest)) :=
  va_iast S.1 S.2.1 hE.1 hP hD hS q0 0 ha rfl hin hdg kk
theorem las (S : CallFix p m c cc nL s args GW own) (hE : EN D cI cJ cS s) (hP : va_P D vwCl ws H) (hD : va_D A ws) (hS : va_S A s.heap H locs) (q0 : Nat) {a n : Nat} {f : Nat → Int64} (ha : ws[q0]? = some (a, .inl (cJ, n, .inr (.inl f)))) {i : Int32} {x : Int64} (hin : vp_in i n) (hdg : decode cc pc = .ok (.lastore, 1)) (kk : ∀ (H1 : Heap) (locs1 : List Loc), va_P D vwCl (ws.set q0 (a, .inl (cJ, n, .inr (.inl (vp_updL f i.toNatClampNeg x))))) H1 → va_D A (ws.set q0 (a, .inl (cJ, n, .inr (.inl (vp_updL f i.toNatClampNeg x))))) → va_S A s.heap H1 locs1 → W p l e R s m args below meth c H1 locs1 cells slots Q (F0 m (pc + 1) ls rest)) : W p l e R s m args below meth c H locs cells slots Q (F0 m pc ls (.long x :: .int i :: .ref a :: rest)) :=
  va_last S.1 S.2.1 hE.1 hP hD hS q0 1 ha rfl hin hdg kk
theorem alen (S : CallFix p m c cc nL s args GW own) (hE : EN D cI cJ cS s) (hP : va_P D vwCl ws H) (q0 t0 : Nat) {a : Nat} {x : vp_A} {cA : ClassId} {ty : FieldType} (ha : ws[q0]? = some (a, .inl (cA, x))) (ht : (tyl cI cJ cS)[t0]? = some (cA, ty)) (hdg : decode cc pc = .ok (.arraylength, 1)) (kk : W p l e R s m args below meth c H locs cells slots Q (F0 m (pc + 1) ls (.int (nI x.1) :: rest))) : W p l e R s m args below meth c H locs cells slots Q (F0 m pc ls (.ref a :: rest)) :=
  va_alen S.1 S.2.1 hE.1 hP q0 t0 ha ht rfl hdg kk
/-- a static array of ints: the reference, then one of its places -/
theorem gsA (S : CallFix p m c cc nL s args GW own) (hT : ST ad adK A s s.heap) (hS : va_S A s.heap H locs) {nm : String} {tb : List Int32} (hm : (nm, tb) ∈ STL) (hlink : Cond.fieldLink own index "RoadThatSings" nm "[I" ∈ GW) (hdg : decode cc pc = .ok (.getstatic index, 3)) (kk : ∀ t : Nat, va_T .int t tb.length (fun k => .int (tb.getD k 0)) A s s.heap → W p l e R s m args below meth c H locs cells slots Q (F0 m (pc + 3) ls (.ref t :: rest))) : W p l e R s m args below meth c H locs cells slots Q (F0 m pc ls rest) := by
  obtain ⟨t, h1, h2⟩ := hT.1 _ hm
  exact va_gets S.1 S.2.1 h1 hS S.2.2.2.1 (S.2.2.2.2 _ hlink) (fun _ h => h) hdg (kk t h2)
theorem tal (S : CallFix p m c cc nL s args GW own) (hS : va_S A s.heap H locs) {t : Nat} {tb : List Int32} (hT : va_T .int t tb.length (fun k => .int (tb.getD k 0)) A s s.heap) {i : Int32} (hin : vp_in i tb.length) (hdg : decode cc pc = .ok (.iaload, 1)) (kk : W p l e R s m args below meth c H locs cells slots Q (F0 m (pc + 1) ls (.int (tb.getD i.toNatClampNeg 0) :: rest))) : W p l e R s m args below meth c H locs cells slots Q (F0 m pc ls (.int i :: .ref t :: rest)) :=
  va_ti S.1 S.2.1 hT hS hin rfl hdg kk
theorem tlen (S : CallFix p m c cc nL s args GW own) (hS : va_S A s.heap H locs) {t : Nat} {tb : List Int32} (hT : va_T .int t tb.length (fun k => .int (tb.getD k 0)) A s s.heap) (hdg : decode cc pc = .ok (.arraylength, 1)) (kk : W p l e R s m args below meth c H locs cells slots Q (F0 m (pc + 1) ls (.int (nI tb.length) :: rest))) : W p l e R s m args below meth c H locs cells slots Q (F0 m pc ls (.ref t :: rest)) :=
  va_tlen S.1 S.2.1 hT hS rfl hdg kk
end CALLS
/-! contracts out of walks -/
theorem Met.ro {l : Launch} {y : MethodName} {cc : ByteArray} {maxL d : Nat} {ret : Option FieldType} {D : va_G} {cI cJ cS : ClassId} {ad adK : Nat → Nat} {av : List Value} {ws : va_W} {Qc : Array Value → State → Outcome → State → Prop} (hy : plainName y.cls = true) (hlen : (lg_sl av).length ≤ maxL)
    (body : ∀ (p : Program) (e : Env) (s : State) (m : MethodId) (args : Array Value) (below : List Frame) (meth : Method) (c : Code) (ls : Array Slot), CallFix p m c cc maxL s args GW y.cls → EN D cI cJ cS s → ST ad adK nof s s.heap → va_P D vwCl ws s.heap → va_S nof s.heap s.heap [] → meth.sig.returnType = ret → meth.locks = false → lv_has ls maxL (lv_args 0 av) → W p l e (rmd d 0 0) s m args below meth c s.heap [] 0 0 (MQ below Qc args s 0 0 nof) (F0 m 0 ls [])) : Met l y (Cond.code y cc maxL ret :: GW) (rmd d 0 0) (PR D cI cJ cS ad adK av ws) Qc 0 0 nof := by
  refine Met.ofW (cc := cc) (maxL := maxL) (ret := ret) hy rfl ?_
  intro p e s m args below meth c s₁ B hml hv
  obtain ⟨rfl, hE, hT, hP⟩ := hv
  have hl := lv_entry av (n := maxL) hlen
  rw [lg_entry_eq]
  exact body p e s m _ below meth c _ ⟨B.exec, B.bytes, hml, findClass_of_methodNamed B.named, fun w hw => atoms_spec (ws := Cond.code y cc maxL ret :: GW) B.pre w (List.mem_cons_of_mem _ hw)⟩ hE hT hP va_S.rf B.returns B.notSynchronized hl
theorem Met.rw {l : Launch} {y : MethodName} {cc : ByteArray} {maxL d mc ms sz : Nat} {ret : Option FieldType} {D : va_G} {cI cJ cS : ClassId} {ad adK : Nat → Nat} {av : List Value} {ws : va_W} {Qc : (Nat → Prop) → Array Value → State → Outcome → State → Prop} (hy : plainName y.cls = true) (hlen : (lg_sl av).length ≤ maxL)
    (body : ∀ (p : Program) (e : Env) (s : State) (m : MethodId) (args : Array Value) (below : List Frame) (meth : Method) (c : Code) (ls : Array Slot) (A : Nat → Prop), CallFix p m c cc maxL s args GW y.cls → EN D cI cJ cS s → ST ad adK A s s.heap → va_P D vwCl ws s.heap → va_D A ws → (∀ q : Nat, s.heap.size ≤ q → A q) → va_S A s.heap s.heap [] → meth.sig.returnType = ret → meth.locks = false → meth.name = y.name → lv_has ls maxL (lv_args 0 av) → W p l e (rmd d mc ms) s m args below meth c s.heap [] 0 0 (MQ below (Qc A) args s mc ms A) (F0 m 0 ls [])) : Met l y (Cond.code y cc maxL ret :: GW) (rmd d mc ms) (PW D cI cJ cS ad adK av ws sz) (Qc (va_A ws sz)) mc ms (va_A ws sz) := by
  refine Met.ofW (cc := cc) (maxL := maxL) (ret := ret) hy rfl ?_
  intro p e s m args below meth c s₁ B hml hv
  obtain ⟨rfl, hsz, hE, hT, hP, hD0⟩ := hv
  subst hsz
  have hl := lv_entry av (n := maxL) hlen
  rw [lg_entry_eq]
  exact body p e s m _ below meth c _ _ ⟨B.exec, B.bytes, hml, findClass_of_methodNamed B.named, fun w hw => atoms_spec (ws := Cond.code y cc maxL ret :: GW) B.pre w (List.mem_cons_of_mem _ hw)⟩ hE hT hP hD0.self (fun q h => Or.inr h) va_S.rf B.returns B.notSynchronized (name_of_methodNamed B.named B.method).1 hl
