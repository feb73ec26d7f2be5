/-! items of books, their words (strings that nobody writes) -/
abbrev vbC (v : Int32) : Prop := narrow .char (.int v) = .int v
abbrev vbB (v : Int32) : Prop := narrow .byte (.int v) = .int v
section ITEMS
variable {p : Program} {l : Launch} {e : Env} {R : Room} {s : State} {m : MethodId} {args : Array Value} {below : List Frame} {meth : Method} {c : Code} {H : Heap} {locs : List Loc} {cells slots : Nat} {Q : State → Prop}
variable {pc : Nat} {ls : Array Slot} {rest st : List Value} {A : Nat → Prop} {D : va_G} {cI cJ cS : ClassId} {ad adK : Nat → Nat} {ws wc : va_W}
variable {y : MethodName} {bytes cc : ByteArray} {maxL nL n index d mc ms b : Nat} {ret : Option FieldType} {Qc : Array Value → State → Outcome → State → Prop} {free : Addr → Prop} {own C host : String} {As : List Value}
theorem ST.form {U : State} {i : Nat} (hT : ST ad adK A U H) (hi : i < 13) : va_OF "RoadThatSings$Item" "form" "I" (.int (tbForm.getD i 0)) (ad i) A U H := by
  obtain ⟨-, t, h1, h2, h3, h4, h5, h6, h7, h8, h9⟩ := hT
  exact h4 i hi
theorem ST.number {U : State} {i : Nat} (hT : ST ad adK A U H) (hi : i < 13) : va_OF "RoadThatSings$Item" "number" "I" (.int (tbNumber.getD i 0)) (ad i) A U H := by
  obtain ⟨-, t, h1, h2, h3, h4, h5, h6, h7, h8, h9⟩ := hT
  exact h5 i hi
theorem ST.word {U : State} {i : Nat} (hT : ST ad adK A U H) (hi : i < 13) : va_OF "RoadThatSings$Item" "word" "Ljava/lang/String;" (.ref (adK (2 * i))) (ad i) A U H := by
  obtain ⟨-, t, h1, h2, h3, h4, h5, h6, h7, h8, h9⟩ := hT
  exact h6 i hi
theorem ST.coder {U : State} {i : Nat} (hT : ST ad adK A U H) (hi : i < 13) : va_OF "java/lang/String" "coder" "B" (.int 0) (adK (2 * i)) A U H := by
  obtain ⟨-, t, h1, h2, h3, h4, h5, h6, h7, h8, h9⟩ := hT
  exact (h7.1 i hi).2.1
theorem ST.sval {U : State} {i : Nat} (hT : ST ad adK A U H) (hi : i < 13) : va_OF "java/lang/String" "value" "[B" (.ref (adK (2 * i + 1))) (adK (2 * i)) A U H := by
  obtain ⟨-, t, h1, h2, h3, h4, h5, h6, h7, h8, h9⟩ := hT
  exact (h7.1 i hi).2.2.1
theorem ST.sbyt {U : State} {i : Nat} (hT : ST ad adK A U H) (hi : i < 13) : va_T .byte (adK (2 * i + 1)) (tbLen.getD i 0) (fun j => .int ((tbByt.getD i []).getD j 0)) A U H := by
  obtain ⟨-, t, h1, h2, h3, h4, h5, h6, h7, h8, h9⟩ := hT
  exact (h7.1 i hi).2.2.2
theorem ST.comp {U : State} (hT : ST ad adK A U H) : va_Z "java/lang/String" "COMPACT_STRINGS" "Z" (.int 1) A U H := by
  obtain ⟨-, t, h1, h2, h3, h4, h5, h6, h7, h8, h9⟩ := hT
  exact h8
theorem ST.sioo {U : State} (hT : ST ad adK A U H) : va_Zq "jdk/internal/util/Preconditions" "SIOOBE_FORMATTER" "Ljava/util/function/BiFunction;" A U H := by
  obtain ⟨-, t, h1, h2, h3, h4, h5, h6, h7, h8, h9⟩ := hT
  exact h9
theorem ST.srecv {i : Nat} (hT : ST ad adK A s s.heap) (hS : va_S A s.heap H locs) (hi : i < 13) : ∃ cellB : Cell, H[adK (2 * i)]? = some cellB ∧ cellB.vm.isStatics = false ∧ s.vm.findClass "java/lang/String" = some cellB.cls := by
  obtain ⟨-, t, h1, h2, h3, h4, h5, h6, h7, h8, h9⟩ := hT
  obtain ⟨cell, g1, g2, g3, -⟩ := ((h7.1 i hi).1).kept hS.2.1
  exact ⟨cell, g1, g2, g3⟩
theorem ST.irecv {i : Nat} (hT : ST ad adK A s s.heap) (hS : va_S A s.heap H locs) (hi : i < 13) : ∃ cellB : Cell, H[ad i]? = some cellB ∧ cellB.vm.isStatics = false ∧ s.vm.findClass "RoadThatSings$Item" = some cellB.cls := by
  obtain ⟨-, t, h1, h2, h3, h4, h5, h6, h7, h8, h9⟩ := hT
  obtain ⟨cell, g1, g2, g3, -⟩ := (h3 i hi).kept hS.2.1
  exact ⟨cell, g1, g2, g3⟩
theorem itf (S : CallFix p m c cc nL s args GW own) {o nm ds : String} {q : Nat} {v : Value} (hF : va_OF o nm ds v q A s s.heap) (hS : va_S A s.heap H locs) (hlink : Cond.fieldLink own index o nm ds ∈ GW) (hdg : decode cc pc = .ok (.getfield index, 3)) (kk : W p l e R s m args below meth c H locs cells slots Q (F0 m (pc + 3) ls (v :: rest))) : W p l e R s m args below meth c H locs cells slots Q (F0 m pc ls (.ref q :: rest)) :=
  vk_getf S.1 S.2.1 hF hS S.2.2.2.1 (S.2.2.2.2 _ hlink) (fun _ h => h) hdg kk
theorem itfN (S : CallFix p m c cc nL s args GW own) (hE : EN D cI cJ cS s) {o nm ds : String} {q : Nat} {v : Value} (hF : va_OF o nm ds v q A s s.heap) (hS : va_S A s.heap H locs) (hlink : (own, index, o, nm, ds, host) ∈ NWF) (hdg : decode cc pc = .ok (.getfield index, 3)) (kk : W p l e R s m args below meth c H locs cells slots Q (F0 m (pc + 3) ls (v :: rest))) : W p l e R s m args below meth c H locs cells slots Q (F0 m pc ls (.ref q :: rest)) := by
  obtain ⟨cf, k, fi, f, cell, h1, h2, h3, h4, h5, h6⟩ := hF.kept hS.2.1
  exact va_Wgetf S.1 S.2.1 S.2.2.2.1 (va_Nw.use rfl (hE.2.1 _ hlink)) h1 h2 h3 h4 (v := v) h5 rfl rfl hdg kk
theorem gsI (S : CallFix p m c cc nL s args GW own) (hE : EN D cI cJ cS s) (hT : ST ad adK A s s.heap) (hS : va_S A s.heap H locs) (hlink : (own, index, "RoadThatSings", "ITEMS", "[LRoadThatSings$Item;", host) ∈ NWF) (hdg : decode cc pc = .ok (.getstatic index, 3)) (kk : ∀ t : Nat, va_T (.object "RoadThatSings$Item") t 13 (fun k => .ref (ad k)) A s s.heap → W p l e R s m args below meth c H locs cells slots Q (F0 m (pc + 3) ls (.ref t :: rest))) : W p l e R s m args below meth c H locs cells slots Q (F0 m pc ls rest) := by
  obtain ⟨-, t, h1, h2, h3, h4, h5, h6, h7, h8, h9⟩ := hT
  exact va_getsN S.1 S.2.1 h1 hS S.2.2.2.1 (va_Nw.use rfl (hE.2.1 _ hlink)) (fun _ h => h) hdg (kk t h2)
theorem gsC (S : CallFix p m c cc nL s args GW own) (hT : ST ad adK A s s.heap) (hS : va_S A s.heap H locs) (hlink : Cond.fieldLink own index "java/lang/String" "COMPACT_STRINGS" "Z" ∈ GW) (hdg : decode cc pc = .ok (.getstatic index, 3)) (kk : W p l e R s m args below meth c H locs cells slots Q (F0 m (pc + 3) ls (.int 1 :: rest))) : W p l e R s m args below meth c H locs cells slots Q (F0 m pc ls rest) :=
  va_gets S.1 S.2.1 hT.comp hS S.2.2.2.1 (S.2.2.2.2 _ hlink) (fun _ h => h) hdg kk
theorem gsF (S : CallFix p m c cc nL s args GW own) (hT : ST ad adK A s s.heap) (hS : va_S A s.heap H locs) (hlink : Cond.fieldLink own index "jdk/internal/util/Preconditions" "SIOOBE_FORMATTER" "Ljava/util/function/BiFunction;" ∈ GW) (hdg : decode cc pc = .ok (.getstatic index, 3)) (k0 : W p l e R s m args below meth c H locs cells slots Q (F0 m (pc + 3) ls (.null :: rest))) (k1 : ∀ t : Nat, W p l e R s m args below meth c H locs cells slots Q (F0 m (pc + 3) ls (.ref t :: rest))) : W p l e R s m args below meth c H locs cells slots Q (F0 m pc ls rest) := by
  rcases hT.sioo with h | ⟨t, h⟩
  · exact va_gets S.1 S.2.1 h hS S.2.2.2.1 (S.2.2.2.2 _ hlink) (fun _ h => h) hdg k0
  · exact va_gets S.1 S.2.1 h hS S.2.2.2.1 (S.2.2.2.2 _ hlink) (fun _ h => h) hdg (k1 t)
theorem roVr (S : CallFix p m c cc nL s args GW own) (hE : EN D cI cJ cS s) (hT : ST ad adK A s s.heap) (hS : va_S A s.heap H locs) (hM : Met l y (Cond.code y bytes maxL ret :: GW) (rmd d 0 0) (PR D cI cJ cS ad adK (.ref b :: As) wc) Qc 0 0 free) (L : LKV own index C y bytes maxL ret n) (hn : As.length = n) (hR : d + 1 ≤ R.frames ∧ 8 + (maxL + 11) + 60 * d ≤ R.locals) (hP : va_P D vwCl wc H) (hrv : ∃ cellB : Cell, H[b]? = some cellB ∧ cellB.vm.isStatics = false ∧ s.vm.findClass C = some cellB.cls) (hsize : ls.size = nL) (hst : st = As.reverse ++ .ref b :: rest) (hW : (rest.map fun v => v.category).sum ≤ 8) (hdg : decode cc pc = .ok (.invokevirtual index, 3)) (hf : cells ≤ R.cells ∧ slots ≤ R.slots) :
    va_Run p l e R s m args below meth c H locs cells slots 0 0 (F0 m pc ls st) rest (Qc (Value.ref b :: As).toArray) free :=
  va_runV S hM (cwV n S.2.2.2.2 L.good rfl rfl rfl L.2 hR) ⟨PR.blind, hrv, PR.pre hE (hT.ro hS) hP⟩ rfl hn hsize hst (lv_room (m := m) (pc := pc) (ls := ls) (rest := st) hW) hdg hf
variable {a : Array Value} {st0 : List Value}
/-- a method that writes nothing and answers nothing -/
theorem ro_v {post : Unit → Prop} (hr : va_Run p l e R s m args below meth c H locs cells slots 0 0 (F0 m pc ls st0) rest (va_Sv post a) nof) (kk : post () → W p l e R s m args below meth c H locs cells slots Q (F0 m (pc + 3) ls rest)) : W p l e R s m args below meth c H locs cells slots Q (F0 m pc ls st0) := by
  intro T hT X
  obtain ⟨v, st₀, t, T', L, h0, X', hL, e1, -, ⟨hv, hp, hh⟩, st⟩ := hr T hT X
  cases hv
  obtain ⟨t2, a1, b1⟩ := kk hp T' (by rw [e1, hh, h0]) (Stand.forget X' (fun q h => (hL q h).elim))
  exact ⟨t2, st t2 a1, b1⟩
theorem rw_e {Sg : Type} {post : Option Nat → Sg → Prop} {w1 : Sg → va_W} (hr : va_Run p l e R s m args below meth c H locs cells slots mc ms (F0 m pc ls st0) rest (va_Qe ad post (fun u t => va_P D vwCl (w1 u) t.heap) (va_A wc H.size) a) (va_A wc H.size)) (hP : va_P D vwCl ws H) (hD : va_D A ws) (hS : va_S A s.heap H locs) (hA : ∀ q : Nat, s.heap.size ≤ q → A q) (is : List Nat) (hC : is.map (fun i => ws[i]?) = wc.map some) (hnd : va_nd is = true) (hw1 : ∀ u, (w1 u).map (·.1) = wc.map (·.1)) (kk : ∀ (r : Option Nat) (u : Sg) (H1 : Heap) (locs1 : List Loc), post r u → va_P D vwCl (wset ws is (w1 u)) H1 → va_D A (wset ws is (w1 u)) → va_S A s.heap H1 locs1 → W p l e R s m args below meth c H1 locs1 (cells + mc) (slots + ms) Q (F0 m (pc + 3) ls (va_re ad r :: rest))) : W p l e R s m args below meth c H locs cells slots Q (F0 m pc ls st0) := by
  have hF := va_free hD hS hA is hC
  refine va_calle hr hS (fun q _ h => hF q h) hF (fun r u t H1 locs1 ht hvm hp hB hz hk hS1 => ?_)
  rw [ht] at hB
  obtain ⟨h1, h2⟩ := wset_ok hP hD is hC hnd hk hB (hw1 u)
  exact kk r u H1 locs1 hp h1 h2 hS1
theorem rlR {d d' maxL mc ms : Nat} (h : d + 1 ≤ d') (hm : maxL ≤ 41) : d + 1 ≤ (rmd d' mc ms).frames ∧ 8 + (maxL + 11) + 60 * d ≤ (rmd d' mc ms).locals := ⟨h, by show 8 + (maxL + 11) + 60 * d ≤ 60 * d'; omega⟩
end ITEMS
