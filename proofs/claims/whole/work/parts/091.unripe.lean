/-! a call of an instance method of a class of which no word says that it is initialised (RoadThatSings$Item): the same run, without that word -/
section UNRIPE
variable {p : Program} {l : Launch} {e : Env} {R : Room} {s : State} {below : List Frame} {sargs : Array Value}
theorem back_U {y : MethodName} {bytes : ByteArray} {maxL len W mc ms : Nat} {ret : Option FieldType} {rm : Room} {Pc : Array Value → State → Prop} {Qc : Array Value → State → Outcome → State → Prop} {free : Addr → Prop}
    (hy : plainName y.cls = true) (hrc : rm.cells = mc) (hrs : rm.slots = ms) (hframes : rm.frames + 1 ≤ R.frames) (hlocals : W + (maxL + 11) + rm.locals ≤ R.locals)
    (hcodeW : ∀ (a' : Array Value) (U : State), s.WarmedH U.vm → (Cond.code y bytes maxL ret).before a' U = true) (hblind : FrameBlind Pc)
    (body : ∀ (z : State) (mk : MethodId) (a : Array Value) (bl : List Frame) (meth : Method) (c : Code), Stand p l e rm z mk a bl meth c (z.setFrames (.java (entryFrame mk a maxL) :: bl)) [] 0 0 → c.code = bytes → c.maxLocals = maxL → meth.sig.returnType = ret → meth.locks = false → z.methodNamed? y = some mk → s.WarmedH z.vm → Pc a z →
      ∃ t, Steps p.tables e bl ((z.setFrames (.java (entryFrame mk a maxL) :: bl)).setTop (entryFrame mk a maxL)) t ∧ MQ bl Qc a z mc ms free t) :
    Back l R p e below s sargs y len W (PreOf R mc ms Pc) (PostOf Qc mc ms free) := by
  intro m meth c A g ig mk a X hg hsize hdg hW hn hp
  obtain ⟨hp1, hp2, hp3⟩ := hp
  obtain ⟨U, Ls, c0, s0⟩ := A
  dsimp only [Pt.U, Pt.locs, Pt.cells, Pt.slots] at hp1 hp2 hp3 X hn ⊢
  obtain ⟨methY, cY, hmY, hcY, hbY, hlY, hrY, hkY, -, -⟩ := Cond.code_spec hn (hcodeW a U X.warmed)
  have h : At U g.method c below := by rw [hg]; exact X.here
  have hroom : (U.calling g mk a).hasRoom e.platform rm = true := X.room_calling (g := g) (R' := rm) hsize hmY hcY hframes (by rw [hlY]; omega) (by rw [hrc]; exact hp1) (by rw [hrs]; exact hp2)
  obtain ⟨mid, hmid⟩ := h.above
  have hfr : (U.setTop g).frames = (.java g :: mid) ++ below := by rw [State.frames_setTop' g h.top, hmid]; rfl
  have hfc : (U.calling g mk a).frames = .invoking mk a :: (.java g :: U.frames.tail) := State.frames_calling h.top g mk a
  have hst : (U.setTop g).frames = .java g :: U.frames.tail := State.frames_setTop' g h.top
  have hcode : (U.calling g mk a).code? g.method = some c := by
    have := h.code
    rw [State.code?_eq] at this ⊢
    simpa [State.calling, State.pushFrame, State.setFrames] using this
  have hrun : (U.calling g mk a).status = .running := h.running
  have hable : (U.calling g mk a).curStatus? = some .runnable := by simpa [State.calling] using h.runnable
  have halone : (U.calling g mk a).alone = true := by simpa [State.calling] using h.alone
  have hhears : (U.calling g mk a).hears mk (.java g :: U.frames.tail) = true := by simp [State.hears, hcode, hdg, Except.toOption]
  have hgo : (U.calling g mk a).goesOn := ⟨hrun, hable, halone⟩
  generalize hz : U.calling g mk a = z at *
  have hcur := State.cur_lt_of_frames hfc
  have hvm : z.vm = U.vm := by rw [← hz]; rfl
  have hmz : z.vm.method? mk = some methY := by rw [hvm]; exact hmY
  have hnz : z.methodNamed? y = some mk := by rw [← hz]; exact hn
  generalize hbl : (Frame.java g :: U.frames.tail) = bl at *
  have hf1 : (z.setFrames (.java (entryFrame mk a maxL) :: bl)).frames = .java (entryFrame mk a maxL) :: bl := State.frames_setFrames _ hcur
  have ht1 := State.topJava?_of_frames hf1
  have hplain : (z.setFrames (.java (entryFrame mk a maxL) :: bl)).plainMethod mk := State.plainMethod.of_named (s := z) (plainFor_of_name hy) hnz hmz
  have hAt : At (z.setFrames (.java (entryFrame mk a maxL) :: bl)) mk cY bl :=
    ⟨by rw [ht1]; rfl, ⟨[], by rw [hf1]; rfl⟩, hrun, by simpa using hable, by simpa using halone,
      by rw [State.code?_eq]; simp [State.setFrames, hmz, hcY], hplain⟩
  have hstep : (stepThread p.tables e z).1 = (z.setFrames (.java (entryFrame mk a maxL) :: bl)).setTop (entryFrame mk a maxL) := by
    have hfull : e.platform.stackFull (z.setFrames bl).me (z.setFrames bl).frames cY.maxLocals = false := by
      obtain ⟨-, h1, -, h2⟩ := State.hasRoom_stack hroom
      rw [hfc, List.length_cons] at h1
      rw [State.localsInUse_invoking hfc hmz hcY] at h2
      have hw := stackUse_le_stackWeight bl
      rw [State.frames_setFrames _ hcur]
      exact Platform.stackFull_eq_false (by rw [State.stackLimits_setFrames]; omega) (by rw [State.stackLimits_setFrames]; omega)
    rw [stepThread_invoking hfc, (doInvoke_java (s := z.setFrames bl) (e := e) (meth := methY) (code := cY) hmz hcY hkY hfull).1, State.setTop_self ht1]
    simp only [State.pushFrame, State.frames_setFrames _ hcur, State.setFrames_setFrames, hlY, entryFrame]
  obtain ⟨tz, htz, -⟩ := State.frames_cons hfc
  have hStand : Stand p l e rm z mk a bl methY cY (z.setFrames (.java (entryFrame mk a maxL) :: bl)) [] 0 0 := by
    refine ⟨X.admits, X.cas, X.clock, hfc, hroom, hhears, hmz, hcY, hAt, by rw [hf1]; rfl, State.WarmedH.refl z, by rw [State.stackLimits_setFrames], by rw [State.stackBytes_setFrames], ?_⟩
    exact (State.sameButNew.refl z htz).setFrames (.java (entryFrame mk a maxL) :: bl) hcur
  obtain ⟨t, ht, o, hrt, het, hqt, L, hfe, hLf⟩ := body z mk a bl methY cY hStand hbY hlY hrY hkY hnz (by rw [hvm]; exact X.warmed) (by rw [← hz]; exact hblind _ _ _ _ hp3)
  have hinv : (stepThread p.tables e z).1 = (doInvoke e (U.setTop g) [] mk a).1 := by
    obtain ⟨tu, htu, -⟩ := State.frames_cons (hst.trans hbl.symm)
    have hlt : (U.setTop g).cur < (U.setTop g).threads.size := (Array.getElem?_eq_some_iff.mp htu).1
    have hf' : ((U.setTop g).pushFrame (.invoking mk a)).frames = .invoking mk a :: (U.setTop g).frames := State.frames_setFrames _ hlt
    rw [← hz]
    show (stepThread p.tables e ((U.setTop g).pushFrame (.invoking mk a))).1 = _
    rw [stepThread_invoking hf', doInvoke_state e (U.setTop g) [], State.pushFrame, State.setFrames_setFrames, State.setFrames_self htu]
  have hblm : bl = (.java g :: mid) ++ below := by rw [← hst, hfr]
  have hsteps : Steps p.tables e below (doInvoke e (U.setTop g) [] mk a).1 t := by
    rw [← hinv, hstep]
    obtain ⟨k, hk, hw⟩ := ht
    refine ⟨k, hk, fun j hj => ?_⟩
    have h9 := hw j hj
    revert h9
    generalize stepsAlone p.tables e j ((z.setFrames (.java (entryFrame mk a maxL) :: bl)).setTop (entryFrame mk a maxL)) = zz
    intro h9
    rw [hblm] at h9
    exact h9.weaken
  subst hz
  subst hbl
  obtain ⟨⟨v, rfl⟩, hW₂, e2, q2, q3, q4, q5, q6⟩ := id hfe
  have e3 : t = ({ (U.calling g mk a).setFrames t.frames with heap := t.heap, slotsUsed := t.slotsUsed } : State).setVm t.vm := by
    have : t = ({ t with vm := (U.calling g mk a).vm } : State).setVm t.vm := rfl
    rw [e2] at this
    exact this
  obtain ⟨c₂, i₂, len₂, hc₂, hd₂, hf₂⟩ := het
  have hW' : U.WarmedH t.vm := hW₂
  have hcc : c₂ = c := by
    have h1 : t.code? g.method = U.code? g.method := by
      rw [State.code?_eq, State.code?_eq, hW'.alike.method?]
    exact Option.some.inj (hc₂.symm.trans (h1.trans h.code))
  subst hcc
  have hlen : len₂ = len := by rw [hdg] at hd₂; cases hd₂; rfl
  subst hlen
  obtain ⟨g₀, hg0⟩ := Option.isSome_iff_exists.mp h.top
  obtain ⟨r, hr⟩ := State.topJava?_eq_some.mp hg0
  have hs₂ : t = (({ U with heap := t.heap, slotsUsed := t.slotsUsed } : State).setVm t.vm).setTop { g with pc := g.pc + len₂, stack := v.toList ++ g.stack } := by
    have hr' : (({ U with heap := t.heap, slotsUsed := t.slotsUsed } : State).setVm t.vm).frames = .java g₀ :: r := hr
    refine e3.trans ?_
    rw [hf₂, State.calling_eq h.top, State.setFrames_setFrames, State.setTop_of_frames _ hr', hr]
    rfl
  have hsame : U.sameButNew ({ U with heap := t.heap, slotsUsed := t.slotsUsed } : State) L mc ms := by
    refine ⟨?_, q2, q3, q4, q5, q6⟩
    obtain ⟨tt, htt, -⟩ := State.frames_cons hr
    show ({ U with heap := t.heap, slotsUsed := t.slotsUsed } : State) = { U.setFrames U.frames with heap := t.heap, slotsUsed := t.slotsUsed }
    rw [State.setFrames_self htt]
  subst hg
  refine ⟨v, ⟨(({ U with heap := t.heap, slotsUsed := t.slotsUsed } : State).setVm t.vm), Ls ++ L, c0 + mc, s0 + ms⟩,
    ⟨X.admits, X.cas, X.clock, X.frames, X.room, X.hears, X.method, X.code, (X.here.setHeapUsed t.heap t.slotsUsed).setVm hW'.alike, X.tail, State.WarmedH.trans X.warmed hW', X.limits, X.bytes, X.same.trans (hsame.setVm s.vm)⟩,
    ⟨g, mk, t, L, rfl, rfl, hqt, rfl, hLf, rfl, rfl⟩, ?_⟩
  show Steps p.tables e below _ ((({ U with heap := t.heap, slotsUsed := t.slotsUsed } : State).setVm t.vm).setTop { g with pc := g.pc + len₂, stack := v.toList ++ g.stack })
  rw [← hs₂]
  exact hsteps
variable {m : MethodId} {args : Array Value} {meth : Method} {c : Code} {H : Heap} {locs : List Loc} {cells slots : Nat}
theorem roVU {A : Nat → Prop} {D : va_G} {cI cJ cS : ClassId} {ad adK : Nat → Nat} {wc : va_W} {y : MethodName} {bytes cc : ByteArray} {maxL nL n index d b pc : Nat} {ret : Option FieldType} {Qc : Array Value → State → Outcome → State → Prop} {own C : String} {As rest st : List Value} {ls : Array Slot}
    (S : CallFix p m c cc nL s args GW own) (hE : EN D cI cJ cS s) (hT : ST ad adK A s s.heap) (hS : va_S A s.heap H locs)
    (body : ∀ (p : Program) (e : Env) (s : State) (m : MethodId) (args : Array Value) (below : List Frame) (meth : Method) (c : Code) (ls : Array Slot), CallFix p m c bytes maxL s args GW y.cls → EN D cI cJ cS s → ST ad adK nof s s.heap → va_P D vwCl wc s.heap → va_S nof s.heap s.heap [] → meth.sig.returnType = ret → meth.locks = false → lv_has ls maxL (lv_args 0 (.ref b :: As)) → W p l e (rmd d 0 0) s m args below meth c s.heap [] 0 0 (MQ below Qc args s 0 0 nof) (F0 m 0 ls []))
    (hy : plainName y.cls = true) (hlen : (lg_sl (.ref b :: As)).length ≤ maxL) (hl : Cond.methodLink own index y ∈ GW) (hi : Cond.instanceMethod y ∈ GW) (hs : Cond.selects C y y ∈ GW) (hc : Cond.code y bytes maxL ret ∈ GW) (hd : y.cls ≠ "java/lang/invoke/MethodHandle" ∧ y.cls ≠ "java/lang/invoke/VarHandle") (hd2 : (parseMethodDescriptor y.desc).map (fun d => d.parameters.length) = some n)
    (hn : As.length = n) (hR : d + 1 ≤ R.frames ∧ 8 + (maxL + 11) + 60 * d ≤ R.locals) (hP : va_P D vwCl wc H) (hrv : ∃ cellB : Cell, H[b]? = some cellB ∧ cellB.vm.isStatics = false ∧ s.vm.findClass C = some cellB.cls) (hsize : ls.size = nL) (hst : st = As.reverse ++ .ref b :: rest) (hW : (rest.map fun v => v.category).sum ≤ 8) (hdg : decode cc pc = .ok (.invokevirtual index, 3)) (hf : cells ≤ R.cells ∧ slots ≤ R.slots) :
    va_Run p l e R s m args below meth c H locs cells slots 0 0 (F0 m pc ls st) rest (Qc (Value.ref b :: As).toArray) nof := by
  have pay : ∀ w ∈ GW, ∀ (a' : Array Value) (U : State), s.WarmedH U.vm → w.before a' U = true := pay_in S.2.2.2.2 (fun w hw => gw_in hw)
  have hK : Back l R p e below s args y 3 8 (PreOf R 0 0 (PR D cI cJ cS ad adK (.ref b :: As) wc)) (PostOf Qc 0 0 nof) := by
    refine back_U (rm := rmd d 0 0) (bytes := bytes) (maxL := maxL) (ret := ret) hy rfl rfl hR.1 hR.2 (fun a' U h => pay _ hc a' U h) PR.blind ?_
    intro z mk a bl methz cz hStand hbz hmlz hrz hkz hnz hWz hPz
    obtain ⟨rfl, hEz, hTz, hPz⟩ := hPz
    have hlz := lv_entry (.ref b :: As) (n := maxL) hlen
    have hw := body p e z mk (Value.ref b :: As).toArray bl methz cz _ ⟨by cases p <;> rfl, hbz, hmlz, findClass_of_methodNamed hnz, fun w hw => pay w hw _ z hWz⟩ hEz hTz hPz va_S.rf hrz hkz hlz
    rw [lg_entry_eq]
    rw [lg_entry_eq] at hStand
    exact hw _ rfl hStand
  obtain ⟨hx, hb, hml, ho, hts⟩ := S
  obtain ⟨cellB, hcB, hoB, hclB⟩ := hrv
  have hPc := PR.pre (av := .ref b :: As) hE (hT.ro hS) hP
  intro T hTT X
  obtain ⟨v, vm₁, ⟨U', l2, c2, s2⟩, hW₁, X', ⟨g', mk, t, L, e1, e2, hq, h1, hL, h2, h3⟩, st'⟩ := callV X hx (C := C) (bytes := bytes) (maxL := maxL) (ret := ret) ho (hts _ hl) (hts _ hi) (hts _ hs) (hts _ hc) hd hK (by rw [hTT]; exact hcB) hoB hclB (g := F0 m pc ls st) rfl (hsize.trans hml.symm) (argsL := As) (rest := rest) (fun sig h => by rw [h] at hd2; exact hn.trans (Option.some.inj hd2).symm) hst (lv_room (m := m) (pc := pc) (ls := ls) (rest := st) hW) (by rw [hb]; exact hdg)
    (fun vm₁ hW₁ => ⟨hf.1, hf.2, hPc (T.setVm vm₁) hTT hW₁⟩)
  dsimp only [Pt.U, Pt.locs, Pt.cells, Pt.slots] at X' e1 e2 h1 h2 h3 st'
  subst h1; subst h2; subst h3
  exact ⟨v, (T.setVm vm₁).calling g' mk (Value.ref b :: As).toArray, t, U', L, hTT, X', hL, e1, e2, hq, st'⟩
end UNRIPE
