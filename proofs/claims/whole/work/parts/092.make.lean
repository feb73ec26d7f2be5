/-! making: new arrays and objects, constructors -/
section MAKE
variable {p : Program} {l : Launch} {e : Env} {R : Room} {s : State} {m : MethodId} {args : Array Value} {below : List Frame} {meth : Method} {c : Code} {H : Heap} {locs : List Loc} {cells slots : Nat} {Q : State → Prop}
variable {pc : Nat} {ls : Array Slot} {rest st : List Value} {A : Nat → Prop} {D : va_G} {cI cJ cS : ClassId} {ad adK : Nat → Nat} {ws wc : va_W}
variable {y : MethodName} {bytes cc : ByteArray} {maxL nL n index d mc ms b ci N : Nat} {Qc : Array Value → State → Outcome → State → Prop} {free : Addr → Prop} {own C host : String} {T : u_T} {As fs : List Value}
theorem newI (S : CallFix p m c cc nL s args GW own) (hE : EN D cI cJ cS s) (hP : va_P D vwCl ws H) (hD : va_D A ws) (hS : va_S A s.heap H locs) (hA : ∀ q : Nat, s.heap.size ≤ q → A q) {n : Int32} (N' : Nat) (hn : ¬ n < 0) (hN : n.toNatClampNeg = N') (hbytes : N' * componentBytes .int ≤ 536870912) (hcells : cells + 1 ≤ R.cells) (hslots : slots + N' ≤ R.slots) (hdg : decode cc pc = .ok (.newarray .int, 2)) (kk : ∀ (q : Nat) (H1 : Heap), va_P D vwCl (ws ++ [(q, .inl (cI, N', .inl (fun _ => 0)))]) H1 → va_D A (ws ++ [(q, .inl (cI, N', .inl (fun _ => 0)))]) → va_S A s.heap H1 locs → W p l e R s m args below meth c H1 locs (cells + 1) (slots + N') Q (F0 m (pc + 2) ls (.ref q :: rest))) : W p l e R s m args below meth c H locs cells slots Q (F0 m pc ls (.int n :: rest)) :=
  va_newa S.1 S.2.1 (atype := .int) (S.2.2.2.2 _ q54) (ty := .int) rfl hE.1 hP hD hS hA (a0 := (N', .inl (fun _ => 0))) (fun _ => rfl) hn hN hbytes hcells hslots hdg (fun q cA H1 hK1 h1 h2 h3 => by
    have e1 : va_RA s cA .int := (hK1.2 3 (cA, .int) rfl).2
    have e2 : va_RA s cI .int := (hE.1.2 0 (cI, .int) rfl).2
    have e : cA = cI := Option.some.inj (e1.symm.trans e2)
    subst e
    exact kk q H1 h1 h2 h3)
theorem newJ (S : CallFix p m c cc nL s args GW own) (hE : EN D cI cJ cS s) (hP : va_P D vwCl ws H) (hD : va_D A ws) (hS : va_S A s.heap H locs) (hA : ∀ q : Nat, s.heap.size ≤ q → A q) {n : Int32} (N' : Nat) (hn : ¬ n < 0) (hN : n.toNatClampNeg = N') (hbytes : N' * componentBytes .long ≤ 536870912) (hcells : cells + 1 ≤ R.cells) (hslots : slots + N' ≤ R.slots) (hdg : decode cc pc = .ok (.newarray .long, 2)) (kk : ∀ (q : Nat) (H1 : Heap), va_P D vwCl (ws ++ [(q, .inl (cJ, N', .inr (.inl (fun _ => 0))))]) H1 → va_D A (ws ++ [(q, .inl (cJ, N', .inr (.inl (fun _ => 0))))]) → va_S A s.heap H1 locs → W p l e R s m args below meth c H1 locs (cells + 1) (slots + N') Q (F0 m (pc + 2) ls (.ref q :: rest))) : W p l e R s m args below meth c H locs cells slots Q (F0 m pc ls (.int n :: rest)) :=
  va_newa S.1 S.2.1 (atype := .long) (S.2.2.2.2 _ q180) (ty := .long) rfl hE.1 hP hD hS hA (a0 := (N', .inr (.inl (fun _ => 0)))) (fun _ => rfl) hn hN hbytes hcells hslots hdg (fun q cA H1 hK1 h1 h2 h3 => by
    have e1 : va_RA s cA .long := (hK1.2 3 (cA, .long) rfl).2
    have e2 : va_RA s cJ .long := (hE.1.2 1 (cJ, .long) rfl).2
    have e : cA = cJ := Option.some.inj (e1.symm.trans e2)
    subst e
    exact kk q H1 h1 h2 h3)
theorem newO (S : CallFix p m c cc nL s args GW own) (hE : EN D cI cJ cS s) (hP : va_P D vwCl ws H) (hD : va_D A ws) (hS : va_S A s.heap H locs) (hA : ∀ q : Nat, s.heap.size ≤ q → A q) {tyo : Nat → FieldType} (hc : vwCl[ci]? = some (C, T, N)) (hin : ∀ w ∈ u_ws C T N, w ∈ GW) (hty : ∀ k, k < N → parseFieldDescriptor (T k).2.2.1 = some (tyo k)) (hcl : Cond.classLink own index C ∈ GW) (hinst : Cond.instantiable C N ∈ GW) (hini : Cond.initialized C ∈ GW) (fs : List Value) (hfs : ∀ j, j < N → defaultValue (tyo j) = vp_V fs j) (hcells : cells + 1 ≤ R.cells) (hslots : slots + N ≤ R.slots) (hdg : decode cc pc = .ok (.new index, 3)) (kk : ∀ (q : Nat) (H1 : Heap), va_P D vwCl (ws ++ [(q, .inr (ci, fs))]) H1 → va_D A (ws ++ [(q, .inr (ci, fs))]) → va_S A s.heap H1 locs → W p l e R s m args below meth c H1 locs (cells + 1) (slots + N) Q (F0 m (pc + 3) ls (.ref q :: rest))) : W p l e R s m args below meth c H locs cells slots Q (F0 m pc ls rest) :=
  va_new S.1 S.2.1 S.2.2.2.2 hin tyo hty S.2.2.2.1 (S.2.2.2.2 _ hcl) (S.2.2.2.2 _ hinst) (S.2.2.2.2 _ hini) hE.1 hP hD hS hA hc hfs hcells hslots hdg kk
theorem newA (S : CallFix p m c cc nL s args GW own) (hE : EN D cI cJ cS s) (hAO : va_AO "RoadThatSings$Shelf" s) (hP : va_P D vwCl ws H) (hD : va_D A ws) (hS : va_S A s.heap H locs) (hA : ∀ q : Nat, s.heap.size ≤ q → A q) (hcl : Cond.classLink own index "RoadThatSings$Shelf" ∈ GW) {n : Int32} (N' : Nat) (hn : ¬ n < 0) (hN : n.toNatClampNeg = N') (hbytes : N' * 4 ≤ 536870912) (hcells : cells + 1 ≤ R.cells) (hslots : slots + N' ≤ R.slots) (hdg : decode cc pc = .ok (.anewarray index, 3)) (kk : ∀ (q : Nat) (H1 : Heap), va_P D vwCl (ws ++ [(q, .inl (cS, N', .inr (.inr (.inr (.inr (fun _ => none))))))]) H1 → va_D A (ws ++ [(q, .inl (cS, N', .inr (.inr (.inr (.inr (fun _ => none))))))]) → va_S A s.heap H1 locs → W p l e R s m args below meth c H1 locs (cells + 1) (slots + N') Q (F0 m (pc + 3) ls (.ref q :: rest))) : W p l e R s m args below meth c H locs cells slots Q (F0 m pc ls (.int n :: rest)) :=
  va_newq S.1 S.2.1 S.2.2.2.1 (S.2.2.2.2 _ hcl) hAO hE.1 hP hD hS hA hn hN hbytes hcells hslots hdg (fun q cA H1 hK1 h1 h2 h3 => by
    obtain ⟨k1, c1, e1, e2, e3, e4⟩ : va_RA s cA (.object "RoadThatSings$Shelf") := (hK1.2 3 (cA, .object "RoadThatSings$Shelf") rfl).2
    obtain ⟨k2, c2, f1, f2, f3, f4⟩ : va_RA s cS (.object "RoadThatSings$Shelf") := (hE.1.2 2 (cS, .object "RoadThatSings$Shelf") rfl).2
    have e : cA = cS := Option.some.inj (e4.symm.trans f4)
    subst e
    exact kk q H1 h1 h2 h3)
theorem pfF (S : CallFix p m c cc nL s args GW own) (hE : EN D cI cJ cS s) (hP : va_P D vwCl ws H) (hD : va_D A ws) (hS : va_S A s.heap H locs) (q0 : Nat) {a k : Nat} {v : Value} {tyo : Nat → FieldType} (he : ws[q0]? = some (a, .inr (ci, fs))) (hc : vwCl[ci]? = some (C, T, N)) (hin : ∀ w ∈ u_ws C T N, w ∈ GW) (hty : ∀ k, k < N → parseFieldDescriptor (T k).2.2.1 = some (tyo k)) (hnm : ∀ a, a < N → ∀ b, b < N → a ≠ b → (T a).2.1 ≠ (T b).2.1) (hk : k < N) (hlink : Cond.fieldLink own index (T k).1 (T k).2.1 (T k).2.2.1 ∈ GW) (hfin : (T k).2.2.2 = true) (hin2 : meth.name = "<init>") (hdecl : (T k).1 = own) (hn : narrow (tyo k) v = v) (hfit : fits (tyo k) v = true) (hl : k < fs.length) (hdg : decode cc pc = .ok (.putfield index, 3)) (kk : ∀ (H1 : Heap) (locs1 : List Loc), va_P D vwCl (ws.set q0 (a, .inr (ci, fs.set k v))) H1 → va_D A (ws.set q0 (a, .inr (ci, fs.set k v))) → va_S A s.heap H1 locs1 → W p l e R s m args below meth c H1 locs1 cells slots Q (F0 m (pc + 3) ls rest)) : W p l e R s m args below meth c H locs cells slots Q (F0 m pc ls (v :: .ref a :: rest)) :=
  va_putF S.1 S.2.1 S.2.2.2.2 hin tyo hty hnm S.2.2.2.1 hE.1 hP hD hS q0 he hc k hk (S.2.2.2.2 _ hlink) (fun _ h => h) hfin hin2 hdecl (hty k hk) hn hfit hl hdg kk
theorem oin (S : CallFix p m c cc nL s args GW own) (hl : Cond.methodLink own index Lib.objectInit ∈ GW) (hi : Cond.instanceMethod Lib.objectInit ∈ GW) (hco : Cond.code Lib.objectInit ⟨#[0xb1]⟩ 1 none ∈ GW) (hsize : ls.size = nL) {a : Addr} (hd : decode cc pc = .ok (.invokespecial index, 3)) (hfr : 1 ≤ R.frames) (hlo : (rest.map fun v => v.category).sum + 12 ≤ R.locals) (kk : W p l e R s m args below meth c H locs cells slots Q (F0 m (pc + 3) ls rest)) : W p l e R s m args below meth c H locs cells slots Q (F0 m pc ls (.ref a :: rest)) :=
  W.objInit S.1 S.2.1 S.2.2.2.1 (S.2.2.2.2 _ hl) (S.2.2.2.2 _ hi) (S.2.2.2.2 _ hco) (g := F0 m pc ls (.ref a :: rest)) rfl (hsize.trans S.2.2.1.symm) rfl hd hfr (by show 2 * 0 + (rest.map fun v => v.category).sum + 12 ≤ R.locals; omega) kk
def LKI (own : String) (idx : Nat) (y : MethodName) (bytes : ByteArray) (maxL : Nat) (n : Nat) : Prop := (Cond.methodLink own idx y ∈ GW ∧ Cond.instanceMethod y ∈ GW ∧ Cond.initialized y.cls ∈ GW ∧ Cond.code y bytes maxL none ∈ GW) ∧ (y.cls ≠ "java/lang/invoke/MethodHandle" ∧ y.cls ≠ "java/lang/invoke/VarHandle" ∧ (parseMethodDescriptor y.desc).map (fun d => d.parameters.length) = some n) ∧ y.name = "<init>"
def LKJ (own : String) (idx : Nat) (y : MethodName) (host : String) (bytes : ByteArray) (maxL : Nat) (n : Nat) : Prop := ((own, idx, y, host) ∈ NWM ∧ Cond.instanceMethod y ∈ GW ∧ Cond.initialized y.cls ∈ GW ∧ Cond.code y bytes maxL none ∈ GW) ∧ (y.cls ≠ "java/lang/invoke/MethodHandle" ∧ y.cls ≠ "java/lang/invoke/VarHandle" ∧ (parseMethodDescriptor y.desc).map (fun d => d.parameters.length) = some n) ∧ y.name = "<init>"
theorem va_D.left {A : Nat → Prop} {w1 w2 : va_W} (h : va_D A (w1 ++ w2)) : va_D A w1 := by
  have g : ∀ (k : Nat) (q : Nat × va_E), w1[k]? = some q → (w1 ++ w2)[k]? = some q := fun k q hk => by rw [List.getElem?_append_left (List.getElem?_eq_some_iff.mp hk).1]; exact hk
  exact ⟨fun i j x y hi hj e => h.1 i j x y (g i x hi) (g j y hj) e, fun k q hk => h.2 k q (g k q hk)⟩
theorem va_D.right {A : Nat → Prop} {w1 w2 : va_W} (h : va_D A (w1 ++ w2)) : va_D A w2 := by
  have g : ∀ (k : Nat) (q : Nat × va_E), w2[k]? = some q → (w1 ++ w2)[w1.length + k]? = some q := fun k q hk => by rw [List.getElem?_append_right (Nat.le_add_right _ _), Nat.add_sub_cancel_left]; exact hk
  refine ⟨fun i j x y hi hj e => ?_, fun k q hk => h.2 _ q (g k q hk)⟩
  have := h.1 _ _ x y (g i x hi) (g j y hj) e
  omega
theorem va_P.left {w1 w2 : va_W} {cl : List vw_C} (h : va_P D cl (w1 ++ w2) H) : va_P D cl w1 H := fun k q hk => h k q (by rw [List.getElem?_append_left (List.getElem?_eq_some_iff.mp hk).1]; exact hk)
theorem va_P.right {w1 w2 : va_W} {cl : List vw_C} (h : va_P D cl (w1 ++ w2) H) : va_P D cl w2 H := fun k q hk => h (w1.length + k) q (by rw [List.getElem?_append_right (Nat.le_add_right _ _), Nat.add_sub_cancel_left]; exact hk)
theorem va_A.right (hD : va_D A (ws ++ wc)) (hS : va_S A s.heap H locs) (hA : ∀ q : Nat, s.heap.size ≤ q → A q) : ∀ q, va_A wc H.size q → A q := by
  intro q h
  rcases h with ⟨k, e, h⟩ | h
  · exact hD.right.2 k (q, e) h
  · exact hA q (Nat.le_trans hS.1 h)
/-- two worlds side by side, the second one is changed and may grow -/
theorem va_split {H1 : Heap} {w1 : va_W} (hP : va_P D vwCl (ws ++ wc) H) (hD : va_D A (ws ++ wc)) (hF : ∀ q, va_A wc H.size q → A q) (hk : ∀ q : Nat, q < H.size → ¬ va_A wc H.size q → H1[q]? = H[q]?) (hB : va_P D vwCl w1 H1) (hB2 : va_D (va_A wc H.size) w1) : va_P D vwCl (ws ++ w1) H1 ∧ va_D A (ws ++ w1) := by
  have key : ∀ (k : Nat) (q : Nat × va_E), ws[k]? = some q → q.1 < H.size ∧ ¬ va_A wc H.size q.1 := by
    intro k q hq
    have hq' : (ws ++ wc)[k]? = some q := by rw [List.getElem?_append_left (List.getElem?_eq_some_iff.mp hq).1]; exact hq
    refine ⟨(hP k q hq').lt, fun h => ?_⟩
    rcases h with ⟨k2, e, h⟩ | h
    · have h2 : (ws ++ wc)[ws.length + k2]? = some (q.1, e) := by rw [List.getElem?_append_right (Nat.le_add_right _ _), Nat.add_sub_cancel_left]; exact h
      have h3 := hD.1 k _ q (q.1, e) hq' h2 rfl
      have h4 := (List.getElem?_eq_some_iff.mp hq).1
      omega
    · exact absurd (hP k q hq').lt (Nat.not_lt.mpr h)
  refine ⟨va_P.app (fun k q hq => (hP.left k q hq).kept (hk q.1 (key k q hq).1 (key k q hq).2)) hB, va_D.app hD.left (hB2.weaken (fun k q _ h => hF q.1 h)) (fun i j x y hx hy hxy => ?_)⟩
  exact (key i x hx).2 (by rw [hxy]; exact hB2.2 j y hy)
theorem rwI (S : CallFix p m c cc nL s args GW own) (hE : EN D cI cJ cS s) (hT : ST ad adK A s s.heap) (hS : va_S A s.heap H locs) (hP : va_P D vwCl (ws ++ wc) H) (hD : va_D A (ws ++ wc)) (hA : ∀ q : Nat, s.heap.size ≤ q → A q) (hM : Met l y (Cond.code y bytes maxL none :: GW) (rmd d mc ms) (PW D cI cJ cS ad adK (.ref b :: As) wc H.size) Qc mc ms free) (L : LKI own index y bytes maxL n) (hn : As.length = n) (hR : d + 1 ≤ R.frames ∧ 8 + (maxL + 11) + 60 * d ≤ R.locals) (hsize : ls.size = nL) (hst : st = As.reverse ++ .ref b :: rest) (hW : (rest.map fun v => v.category).sum ≤ 8) (hdg : decode cc pc = .ok (.invokespecial index, 3)) (hf : cells + mc ≤ R.cells ∧ slots + ms ≤ R.slots) :
    va_Run p l e R s m args below meth c H locs cells slots mc ms (F0 m pc ls st) rest (Qc (Value.ref b :: As).toArray) free :=
  va_runI S hM (cwI n S.2.2.2.2 (gw_code L.1.2.2.2) rfl rfl rfl (S.2.2.2.2 _ L.1.2.2.1) (S.2.2.2.2 _ L.1.1) (S.2.2.2.2 _ L.1.2.1) L.2.2 L.2.1 hR) ⟨PW.blind, PW.pre hE ((hT.kept hS.2.1).narrow (va_A.right hD hS hA)) hP.right (hD.right.weaken (fun _ _ _ _ => trivial))⟩ rfl hn hsize hst (lv_room (m := m) (pc := pc) (ls := ls) (rest := st) hW) hdg hf
theorem rwJ (S : CallFix p m c cc nL s args GW own) (hE : EN D cI cJ cS s) (hT : ST ad adK A s s.heap) (hS : va_S A s.heap H locs) (hP : va_P D vwCl (ws ++ wc) H) (hD : va_D A (ws ++ wc)) (hA : ∀ q : Nat, s.heap.size ≤ q → A q) (hM : Met l y (Cond.code y bytes maxL none :: GW) (rmd d mc ms) (PW D cI cJ cS ad adK (.ref b :: As) wc H.size) Qc mc ms free) (L : LKJ own index y host bytes maxL n) (hn : As.length = n) (hR : d + 1 ≤ R.frames ∧ 8 + (maxL + 11) + 60 * d ≤ R.locals) (hsize : ls.size = nL) (hst : st = As.reverse ++ .ref b :: rest) (hW : (rest.map fun v => v.category).sum ≤ 8) (hdg : decode cc pc = .ok (.invokespecial index, 3)) (hf : cells + mc ≤ R.cells ∧ slots + ms ≤ R.slots) :
    va_Run p l e R s m args below meth c H locs cells slots mc ms (F0 m pc ls st) rest (Qc (Value.ref b :: As).toArray) free :=
  va_runIN S hM ⟨va_cnB n S.2.2.2.2 (gw_code L.1.2.2.2) rfl rfl rfl (hE.2.2 _ L.1.1) (S.2.2.2.2 _ L.1.2.2.1) L.2.1 hR, L.2.2, S.2.2.2.2 _ L.1.2.1⟩ ⟨PW.blind, PW.pre hE ((hT.kept hS.2.1).narrow (va_A.right hD hS hA)) hP.right (hD.right.weaken (fun _ _ _ _ => trivial))⟩ rfl hn hsize hst (lv_room (m := m) (pc := pc) (ls := ls) (rest := st) hW) hdg hf
theorem rw_c {a : Array Value} {st0 : List Value} {Sg : Type} {post : Sg → Prop} {w1 : Sg → va_W} (hr : va_Run p l e R s m args below meth c H locs cells slots mc ms (F0 m pc ls st0) rest (va_Qv post (fun u t => va_P D vwCl (w1 u) t.heap ∧ va_D (va_A wc H.size) (w1 u)) (va_A wc H.size) a) (va_A wc H.size)) (hP : va_P D vwCl (ws ++ wc) H) (hD : va_D A (ws ++ wc)) (hS : va_S A s.heap H locs) (hA : ∀ q : Nat, s.heap.size ≤ q → A q) (kk : ∀ (u : Sg) (H1 : Heap) (locs1 : List Loc), post u → va_P D vwCl (ws ++ w1 u) H1 → va_D A (ws ++ w1 u) → va_S A s.heap H1 locs1 → W p l e R s m args below meth c H1 locs1 (cells + mc) (slots + ms) Q (F0 m (pc + 3) ls rest)) : W p l e R s m args below meth c H locs cells slots Q (F0 m pc ls st0) := by
  have hF := va_A.right hD hS hA
  refine va_callv hr hS (fun q _ h => hF q h) hF (fun u t H1 locs1 ht hvm hp hB hz hk hS1 => ?_)
  obtain ⟨hB, hB2⟩ := hB
  rw [ht] at hB
  obtain ⟨h1, h2⟩ := va_split hP hD hF hk hB hB2
  exact kk u H1 locs1 hp h1 h2 hS1
end MAKE
/-! a start that also knows the class of the arrays of shelves -/
def PWX (D : va_G) (cI cJ cS : ClassId) (ad adK : Nat → Nat) (av : List Value) (ws : va_W) (sz : Nat) : Array Value → State → Prop := va_Pc av (fun U => U.heap.size = sz ∧ va_AO "RoadThatSings$Shelf" U ∧ EN D cI cJ cS U ∧ ST ad adK (va_A ws sz) U U.heap ∧ va_P D vwCl ws U.heap ∧ va_D (fun _ => True) ws)
theorem PWX.blind {D : va_G} {cI cJ cS : ClassId} {ad adK : Nat → Nat} {av : List Value} {ws : va_W} {sz : Nat} : FrameBlind (PWX D cI cJ cS ad adK av ws sz) := fun a U g mk h => ⟨h.1, h.2.1, va_AO.moved (u := U) (U := U.calling g mk a) (Vm.Alike.refl U.vm) h.2.2.1, h.2.2.2.1.call, ST.moved (u := U) (U := U.calling g mk a) (Vm.Alike.refl U.vm) h.2.2.2.2.1, h.2.2.2.2.2⟩
theorem PWX.pre {D : va_G} {cI cJ cS : ClassId} {ad adK : Nat → Nat} {av : List Value} {ws : va_W} {s : State} {H : Heap} (hO : va_AO "RoadThatSings$Shelf" s) (hE : EN D cI cJ cS s) (hT : ST ad adK (va_A ws H.size) s H) (hP : va_P D vwCl ws H) (hD : va_D (fun _ => True) ws) : ∀ U : State, U.heap = H → s.WarmedH U.vm → PWX D cI cJ cS ad adK av ws H.size av.toArray U := fun U hU hW => ⟨rfl, by rw [hU], va_AO.moved hW.alike hO, hE.warm hW, by rw [hU]; exact hT.moved hW.alike, by rw [hU]; exact hP, hD⟩
theorem Met.rwX {l : Launch} {y : MethodName} {cc : ByteArray} {maxL d mc ms sz : Nat} {ret : Option FieldType} {D : va_G} {cI cJ cS : ClassId} {ad adK : Nat → Nat} {av : List Value} {ws : va_W} {Qc : (Nat → Prop) → Array Value → State → Outcome → State → Prop} (hy : plainName y.cls = true) (hlen : (lg_sl av).length ≤ maxL)
    (body : ∀ (p : Program) (e : Env) (s : State) (m : MethodId) (args : Array Value) (below : List Frame) (meth : Method) (c : Code) (ls : Array Slot) (A : Nat → Prop), CallFix p m c cc maxL s args GW y.cls → va_AO "RoadThatSings$Shelf" s → EN D cI cJ cS s → ST ad adK A s s.heap → va_P D vwCl ws s.heap → va_D A ws → (∀ q : Nat, s.heap.size ≤ q → A q) → va_S A s.heap s.heap [] → meth.sig.returnType = ret → meth.locks = false → meth.name = y.name → lv_has ls maxL (lv_args 0 av) → W p l e (rmd d mc ms) s m args below meth c s.heap [] 0 0 (MQ below (Qc A) args s mc ms A) (F0 m 0 ls [])) : Met l y (Cond.code y cc maxL ret :: GW) (rmd d mc ms) (PWX D cI cJ cS ad adK av ws sz) (Qc (va_A ws sz)) mc ms (va_A ws sz) := by
  refine Met.ofW (cc := cc) (maxL := maxL) (ret := ret) hy rfl ?_
  intro p e s m args below meth c s₁ B hml hv
  obtain ⟨rfl, hsz, hO, hE, hT, hP, hD0⟩ := hv
  subst hsz
  have hl := lv_entry av (n := maxL) hlen
  rw [lg_entry_eq]
  exact body p e s m _ below meth c _ _ ⟨B.exec, B.bytes, hml, findClass_of_methodNamed B.named, fun w hw => atoms_spec (ws := Cond.code y cc maxL ret :: GW) B.pre w (List.mem_cons_of_mem _ hw)⟩ hO hE hT hP hD0.self (fun q h => Or.inr h) va_S.rf B.returns B.notSynchronized (name_of_methodNamed B.named B.method).1 hl
section MAKEX
variable {p : Program} {l : Launch} {e : Env} {R : Room} {s : State} {m : MethodId} {args : Array Value} {below : List Frame} {meth : Method} {c : Code} {H : Heap} {locs : List Loc} {cells slots : Nat} {Q : State → Prop}
variable {pc : Nat} {ls : Array Slot} {rest st : List Value} {A : Nat → Prop} {D : va_G} {cI cJ cS : ClassId} {ad adK : Nat → Nat} {ws wc : va_W}
variable {y : MethodName} {bytes cc : ByteArray} {maxL nL n index d mc ms b : Nat} {Qc : Array Value → State → Outcome → State → Prop} {free : Addr → Prop} {own : String} {As : List Value}
theorem rwIX (S : CallFix p m c cc nL s args GW own) (hO : va_AO "RoadThatSings$Shelf" s) (hE : EN D cI cJ cS s) (hT : ST ad adK A s s.heap) (hS : va_S A s.heap H locs) (hP : va_P D vwCl (ws ++ wc) H) (hD : va_D A (ws ++ wc)) (hA : ∀ q : Nat, s.heap.size ≤ q → A q) (hM : Met l y (Cond.code y bytes maxL none :: GW) (rmd d mc ms) (PWX D cI cJ cS ad adK (.ref b :: As) wc H.size) Qc mc ms free) (L : LKI own index y bytes maxL n) (hn : As.length = n) (hR : d + 1 ≤ R.frames ∧ 8 + (maxL + 11) + 60 * d ≤ R.locals) (hsize : ls.size = nL) (hst : st = As.reverse ++ .ref b :: rest) (hW : (rest.map fun v => v.category).sum ≤ 8) (hdg : decode cc pc = .ok (.invokespecial index, 3)) (hf : cells + mc ≤ R.cells ∧ slots + ms ≤ R.slots) :
    va_Run p l e R s m args below meth c H locs cells slots mc ms (F0 m pc ls st) rest (Qc (Value.ref b :: As).toArray) free :=
  va_runI S hM (cwI n S.2.2.2.2 (gw_code L.1.2.2.2) rfl rfl rfl (S.2.2.2.2 _ L.1.2.2.1) (S.2.2.2.2 _ L.1.1) (S.2.2.2.2 _ L.1.2.1) L.2.2 L.2.1 hR) ⟨PWX.blind, PWX.pre hO hE ((hT.kept hS.2.1).narrow (va_A.right hD hS hA)) hP.right (hD.right.weaken (fun _ _ _ _ => trivial))⟩ rfl hn hsize hst (lv_room (m := m) (pc := pc) (ls := ls) (rest := st) hW) hdg hf
end MAKEX
