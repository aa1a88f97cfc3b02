/-! the constructor of NoSuchElementException(String), then the throw -/
abbrev qNse : String := "java/util/NoSuchElementException"
abbrev qN6 : ByteArray := prog_28_method_4_code
def qOwn (own : String) (ic : Nat) : List Cond := Bundle.throwableAtoms ++ Bundle.throwableSAtoms ++ (Bundle.passSAtoms qNse "java/lang/RuntimeException" 13 qN6 ++ Bundle.chainSAtoms "java/lang/RuntimeException" ["java/lang/Exception"]) ++
  [.methodLink own ic (Bundle.initS qNse), .instantiable qNse 6, .selects qNse Bundle.tFill0 Bundle.tFill0, .selects qNse Bundle.tFill Bundle.tFill,
   .lays qNse Bundle.tN "cause" "Ljava/lang/Throwable;", .lays qNse Bundle.tN "stackTrace" Bundle.steD, .lays qNse Bundle.tN "suppressedExceptions" Bundle.listD, .lays qNse Bundle.tN "detailMessage" "Ljava/lang/String;",
   .isRef (.static Bundle.tN "UNASSIGNED_STACK" Bundle.steD), .isRef (.static Bundle.tN "SUPPRESSED_SENTINEL" Bundle.listD),
   .fieldLink Bundle.tN 198 Bundle.tN "backtrace" "Ljava/lang/Object;", .lays Bundle.tN Bundle.tN "backtrace" "Ljava/lang/Object;", .lays qNse Bundle.tN "backtrace" "Ljava/lang/Object;"]
def qAtS (own : String) (ic : Nat) : List Cond := (qOwn own ic).filter vx_no
section QCTS
variable {p : Program} {l : Launch} {e : Env} {R : Room} {s : State} {m₀ : MethodId} {args : Array Value} {below : List Frame} {meth : Method} {c : Code} {W : State} {locs : List Loc} {cells slots : Nat}
set_option maxHeartbeats 1000000 in
theorem qctorS (X : Stand p l e R s m₀ args below meth c W locs cells slots) (hexec : p.tables.exec = Jvm.exec) (htr : e.platform.stackTraces = false) {own : String} {ic : Nat}
    (hown : s.vm.findClass own = some m₀.cls) 
    (h : ∀ a ∈ qOwn own ic, a.before args s = true)
    (hlocs : ∀ x ∈ locs, ∀ cell, s.heap[x.base]? = some cell → cell.vm.isStatics = false)
    {a : Addr} {cX : ClassId} {kX : Class} (hfoundX : s.vm.findClass qNse = some cX) (hkX : s.vm.classes[cX]? = some kX) (hcell : W.heap[a]? = some (freshCell cX kX)) (hnew : s.heap.size ≤ a)
    {msg : Value} (hmsg : msg.isRef = true)
    {g : JFrame} (hg : g.method = m₀) (hsize : g.locals.size = c.maxLocals) (hlocked : g.locked = none) (hentered : g.entered = []) {rest : List Value} (hstack : g.stack = msg :: .ref a :: .ref a :: rest)
    (hd6 : decode c.code g.pc = .ok (.invokespecial ic, 3)) (hd9 : decode c.code (g.pc + 3) = .ok (.athrow, 1)) (hout : ∀ x ∈ c.exceptionTable.toList, covers x (g.pc + 3) = false)
    (hRframes : 2 + 3 < R.frames) (hRlocals : 2 * g.monitorRoom + ((Value.ref a :: rest).map fun v => v.category).sum + (13 * (2 + 1) + 42) ≤ R.locals) (hlocks : meth.locks = false := by first | assumption | exact BodyLoose.notSynchronized (by assumption) | exact Body.notSynchronized (by assumption)) :
    ∃ U : State, Steps p.tables e below (W.setTop g) U ∧ U.status = .running ∧ Ended U below (.threw a) ∧ s.WarmedH U.vm ∧ s.sameButNew ({ U with vm := s.vm } : State) locs cells slots ∧
      ∃ ce, U.heap[a]? = some ce ∧ ce.vm = .none ∧ s.vm.findClass qNse = some ce.cls := by
  have howns : e.platform.frameOwnsMonitors = true := by rw [X.admits.platform]
  have hfin : e.platform.finalization = false := by rw [X.admits.platform]
  have hpl : e.platform.magicAccessors = ({} : Platform).magicAccessors := by rw [X.admits.platform]
  have a' : ∀ x, x ∈ qOwn own ic → x.holds args s none s [] = true := fun x hx => h x hx
  obtain ⟨T, Z0, L, -, Y⟩ := ThrowableC.of_atoms (args := args) howns hfin hpl (fun x hx => h x (by simp [qOwn, hx]))
  obtain ⟨Z, M, LZ, LM, hnZ⟩ := Init0T.ofS_atoms (args := args) hpl L Y (fun x hx => h x (by simp [qOwn, hx]))
  obtain ⟨P1, L1, hP1m, hs1⟩ := PassC.ofS_atoms (args := args) (s := s) hpl (X := qNse) (Y := "java/lang/RuntimeException") (index := 13) (bytes := qN6) (by decide) (by decide) (by decide) (by decide) (by decide) (by decide) (fun x hx => h x (by simp [qOwn, hx]))
  obtain ⟨P2, Ps2, hlen2, L2, hL2, hm2, hlink2, hlinkr⟩ := Bundle.chainS (args := args) hpl hnZ ["java/lang/Exception"] "java/lang/RuntimeException" (by decide) (by decide) (fun x hx => h x (by simp [qOwn, hx]))
  have hlink1 : P1.sup = P2.m := Option.some.inj (hs1.symm.trans hm2)
  have hlen : (P2 :: Ps2).length = 2 := by rw [List.length_cons, hlen2]; rfl
  have hL : ∀ P, P ∈ P2 :: Ps2 → P.LinksS e.platform s := fun P hP => by
    rcases List.mem_cons.mp hP with rfl | hP
    · exact L2
    · exact hL2 P hP
  have hfound : s.vm.findClass qNse = some P1.m.cls := findClass_of_methodNamed hP1m
  cases Option.some.inj (hfoundX.symm.trans hfound)
  obtain ⟨c1, kX', hc1, hk, hord, -, -, hn6⟩ := Cond.instantiable_spec (a' (.instantiable qNse 6) (by simp [qOwn]))
  cases Option.some.inj (hc1.symm.trans hfound)
  cases Option.some.inj (hkX.symm.trans hk)
  have hsel0 : selectMethod e.platform s.vm P1.m.cls T.fill0 = .method T.fill0 := by
    obtain ⟨c2, r2, m2, q1, q2, q3, q4, -⟩ := Cond.selects_spec (a' (.selects qNse Bundle.tFill0 Bundle.tFill0) (by simp [qOwn]))
    cases Option.some.inj (q1.symm.trans hfound)
    cases Option.some.inj (q2.symm.trans (State.methodFound?_of_named Y.fill0 (by decide)))
    cases Option.some.inj (q3.symm.trans Y.fill0)
    rw [Launch.admits_selectMethod X.admits]; exact q4
  have hselF : selectMethod e.platform s.vm P1.m.cls T.fill = .method T.fill := by
    obtain ⟨c2, r2, m2, q1, q2, q3, q4, -⟩ := Cond.selects_spec (a' (.selects qNse Bundle.tFill Bundle.tFill) (by simp [qOwn]))
    cases Option.some.inj (q1.symm.trans hfound)
    cases Option.some.inj (q2.symm.trans (State.methodFound?_of_named Y.fill (by decide)))
    cases Option.some.inj (q3.symm.trans Y.fill)
    rw [Launch.admits_selectMethod X.admits]; exact q4
  obtain ⟨cellS0, hcS0, hiss⟩ := Y.statics
  obtain ⟨u0, hu0⟩ := Cond.staticRefV Y.unassigned L.unassignedStatic L.statics hcS0 hiss (a' (.isRef (.static Bundle.tN "UNASSIGNED_STACK" Bundle.steD)) (by simp [qOwn]))
  obtain ⟨sen, hsen⟩ := Cond.staticRefV Y.sentinel L.sentinelStatic L.statics hcS0 hiss (a' (.isRef (.static Bundle.tN "SUPPRESSED_SENTINEL" Bundle.listD)) (by simp [qOwn]))
  obtain ⟨ci198, i198, fB, hk198, hg198, ha198, hsB, -, hnB, htB, hffB⟩ := Cond.ownField (t := .object "java/lang/Object") Y.found L.cls (by decide +kernel) (a' (.fieldLink Bundle.tN 198 Bundle.tN "backtrace" "Ljava/lang/Object;") (by simp [qOwn])) (a' (.lays Bundle.tN Bundle.tN "backtrace" "Ljava/lang/Object;") (by simp [qOwn])) e.platform hpl
  obtain ⟨cellS, hcS', heS, -, hkeep⟩ := X.same.2.2.2.2.2 T.aS cellS0 hcS0
  have hcellS : W.heap[T.aS]? = some cellS := hcS'
  have hout' : ∀ i, (⟨T.aS, i⟩ : Loc) ∉ locs := fun i hmem => by
    have := hlocs _ hmem cellS0 hcS0
    rw [hiss] at this; cases this
  have hknownS : cellS.vm ≠ .unknown := by
    rw [heS]; intro hu
    rw [show cellS0.vm = .unknown from hu] at hiss
    cases hiss
  have hneS : T.aS ≠ a := Nat.ne_of_lt (Nat.lt_of_lt_of_le (Array.getElem?_eq_some_iff.mp hcS0).1 hnew)
  obtain ⟨iM, hffM⟩ := Y.msg
  obtain ⟨tyC, dC, hdC, hdnC⟩ := Cond.laysAt hfound hk Y.cause (a' (.lays qNse Bundle.tN "cause" "Ljava/lang/Throwable;") (by simp [qOwn]))
  obtain ⟨tyS, dS, hdS, hdnS⟩ := Cond.laysAt hfound hk Y.stack (a' (.lays qNse Bundle.tN "stackTrace" Bundle.steD) (by simp [qOwn]))
  obtain ⟨tyP, dP, hdP, hdnP⟩ := Cond.laysAt hfound hk Y.supp (a' (.lays qNse Bundle.tN "suppressedExceptions" Bundle.listD) (by simp [qOwn]))
  obtain ⟨tyM, dM, hdM, hdnM⟩ := Cond.laysAt hfound hk hffM (a' (.lays qNse Bundle.tN "detailMessage" "Ljava/lang/String;") (by simp [qOwn]))
  obtain ⟨tyB, dB, hdB, hdnB⟩ := Cond.laysAt hfound hk hffB (a' (.lays qNse Bundle.tN "backtrace" "Ljava/lang/Object;") (by simp [qOwn]))
  have bC := Cond.laysApart hdB hdC hdnB hdnC (by rw [hnB, Y.causeName]; decide)
  have bS := Cond.laysApart hdB hdS hdnB hdnS (by rw [hnB, Y.stackName]; decide)
  have bP := Cond.laysApart hdB hdP hdnB hdnP (by rw [hnB, Y.suppName]; decide)
  have hskip : SkipFacts T e.platform s (fun u => u) u0 ((preparedCellV T.toThrowableT (freshCell P1.m.cls kX) a u0 sen).withEntry W.cur) :=
    ⟨{ ci198 := ci198, i198 := i198, fBack := fB }, ⟨hk198, hg198, ha198, hsB⟩, by
      have := fresh_default (c := P1.m.cls) tyB
      rw [htB] at this
      simpa [preparedCellV, Cell.setSlot, Cell.withEntry, Array.getElem?_setIfInBounds, bC, bS, bP, bC.symm, bS.symm, bP.symm, defaultValue] using this, fun _ _ => rfl⟩
  obtain ⟨tm, methC, cdC, kC, vm₁, hnC, -, -, -, -, -, -, -, hW₁, st1⟩ := Steps.initColdS (tb := p.tables) (e := e) (below := below) (s := s) (U := W) X.here hexec X.warmed hpl hown (t := Bundle.initS qNse) rfl rfl (Bundle.fit_spec (n := qNse) (by decide)).2
    (a' (.methodLink own ic (Bundle.initS qNse)) (by simp [qOwn])) (h (.instanceMethod (Bundle.initS qNse)) (by simp [qOwn, Bundle.passSAtoms])) (bytes := qN6) (maxL := 2) (h (.code (Bundle.initS qNse) qN6 2 none) (by simp [qOwn, Bundle.passSAtoms]))
    (f := g) hg (a := a) (msg := msg) (rest := .ref a :: rest) hstack hd6
  cases Option.some.inj (hnC.symm.trans hP1m)
  have X₁ := X.noted hW₁
  obtain ⟨vm₂, X₂, st2⟩ := X₁.ctorMessageOffV hexec (g := { g with stack := .ref a :: rest }) hg hsize T L Z LZ M LM (P1 :: P2 :: Ps2)
    (fun P hP => by rcases List.mem_cons.mp hP with rfl | hP; exact L1; exact hL P hP) ⟨hlink1, hlink2, hlinkr⟩ (u0 := u0) (sen := sen) (self := a) hmsg (cell := freshCell P1.m.cls kX) (cellS := cellS)
    hcell (fun _ => by simp) (by simp) rfl rfl hsel0 hselF hcellS hneS hknownS (by rw [hkeep _ (hout' _)]; exact hu0) (by rw [hkeep _ (hout' _)]; exact hsen)
    (Takes.of_laid hk hord tyC (by rw [Y.causeType]; rfl)) (Takes.of_laid hk hord tyS (by rw [Y.stackType]; exact fits_refV_array _ u0)) (Takes.of_laid hk hord tyP (by rw [Y.suppType]; exact fits_refV_object _ sen))
    (Takes.of_laid hk hord tyM (by rw [Y.msgType]; exact fits_refV_object _ ⟨msg, hmsg⟩)) Y.objLocals hskip htr [] hd6
    (by simp only [List.length_cons, hlen]; omega) (by simp only [List.length_cons, hlen]; exact hRlocals)
  obtain ⟨hwalk, hrun, hended, hWU, hsame⟩ := X₂.athrowLeaves hexec (g := { g with stack := .ref a :: rest, pc := g.pc + 3 }) hg hlocked hentered hout (a := a) (rest := rest) rfl hd9
  have hlt : a < ((W.setVm vm₁).setVm vm₂).heap.size := (Array.getElem?_eq_some_iff.mp hcell).1
  have hU := heapAt_setCell_self (s := (W.setVm vm₁).setVm vm₂) (plainBareV T.toThrowableT (freshCell P1.m.cls kX) a u0 sen msg) hlt
  have hnM : T.fMsg.name = "detailMessage" := (State.fieldFound?_type hffM (t := .object "java/lang/String") (by decide +kernel)).1
  refine ⟨_, st1 _ (fun acts => ?_), hrun, hended, hWU, hsame.weaken (fun y hy hlt' => ?_) (Nat.le_refl _) (Nat.le_refl _), _, hU, ?_⟩
  · rw [doInvoke_state]
    exact st2 _ hwalk
  · rcases List.mem_append.mp hy with h1 | h1
    · exact h1
    · exfalso
      have hb : y.base = a := by
        simp only [List.mem_cons, List.not_mem_nil, or_false] at h1
        rcases h1 with rfl | rfl | rfl | rfl | rfl <;> rfl
      rw [hb] at hlt'
      exact Nat.not_lt.mpr hnew hlt'
  · exact ⟨rfl, hfound⟩
end QCTS
/-! the method that throws (108) and the one that catches (269) -/
section QTHR
variable {p : Program} {l : Launch} {e : Env} {R : Room} {s : State} {m : MethodId} {args : Array Value} {below : List Frame} {meth : Method} {c : Code} {H : Heap} {locs : List Loc} {cells slots : Nat} {Q : State → Prop}
variable {mc ms : Nat} {free : Addr → Prop} {a : Array Value} {ls : Array Slot} {st0 rest : List Value}
variable {Qc : Array Value → State → Outcome → State → Prop} {XC : String → State → State → Prop}
theorem qthrowS {cc : ByteArray} {pc : Nat} (hexec : p.tables.exec = Jvm.exec) (hb : c.code = cc) (hl : l.stackTraces = false) {own text : String} {ik is ic mc ms sa : Nat} {A : Nat → Prop}
    (hown : s.vm.findClass own = some m.cls) 
    (hk : (Cond.classLink own ik qNse).before args s = true) (hini : (Cond.initialized qNse).before args s = true) (hstr : vk_R own is text sa s) (hat : ∀ w ∈ qAtS own ic, w.before args s = true)
    (hgood : ∀ w ∈ Cond.classLink own ik qNse :: Cond.initialized qNse :: qAtS own ic, vx_ot w = true)
    (hU : vx_Zq Bundle.tN "UNASSIGNED_STACK" Bundle.steD A s s.heap) (hN : vx_Zq Bundle.tN "SUPPRESSED_SENTINEL" Bundle.listD A s s.heap) (hS : va_S A s.heap H locs) (hsize : ls.size = c.maxLocals)
    (d0 : decode cc pc = .ok (.new ik, 3)) (d3 : decode cc (pc + 3) = .ok (.dup, 1)) (d4 : decode cc (pc + 4) = .ok (.ldc is, 2)) (d6 : decode cc (pc + 6) = .ok (.invokespecial ic, 3)) (d9 : decode cc (pc + 9) = .ok (.athrow, 1))
    (hout : ∀ x ∈ c.exceptionTable.toList, covers x (pc + 9) = false)
    (hRframes : 2 + 3 < R.frames) (hRlocals : (rest.map fun v => v.category).sum + (13 * (2 + 1) + 43) ≤ R.locals) (hRcells : cells + 1 ≤ R.cells) (hRslots : slots + 6 ≤ R.slots) (hlocks : meth.locks = false)
    (hx : ∀ t : State, s.vm.Alike t.vm → t.heap.size = H.size + 1 → (∀ q : Nat, q < H.size → t.heap[q]? = H[q]?) → XC qNse s t)
    (hf : ∀ z ∈ locs, free z.base) (hc : cells + 1 ≤ mc) (hs : slots + 6 ≤ ms) :
    W p l e R s m args below meth c H locs cells slots (vx_MQ below Qc XC args s mc ms free) (F0 m pc ls rest) := by
  intro T hT X
  have htr : e.platform.stackTraces = false := (show e.platform.stackTraces = l.stackTraces by rw [X.admits.platform]).trans hl
  have Y := vx_rebase X (R' := { frames := R.frames, locals := R.locals, cells := 1, slots := 6 }) (Nat.le_refl _) (Nat.le_refl _) hRcells hRslots
  obtain ⟨s', hA⟩ : ∃ z, z = (T.setVm s.vm).setFrames (.invoking m args :: below) := ⟨_, rfl⟩
  rw [← hA] at Y
  have hvm : s'.vm = s.vm := by rw [hA]; rfl
  have hhp : s'.heap = H := by rw [hA]; exact hT
  have hW0 : s.WarmedH s'.vm := by rw [hvm]; exact State.WarmedH.refl s
  have hat' : ∀ w ∈ qAtS own ic, w.before args s' = true := fun w hw => vx_ot_at hW0 hvm.symm (hgood w (List.mem_cons_of_mem _ (List.mem_cons_of_mem _ hw))) (hat w hw)
  have hk' : (Cond.classLink own ik qNse).before args s' = true := vx_ot_at hW0 hvm.symm (hgood _ List.mem_cons_self) hk
  have hini' : (Cond.initialized qNse).before args s' = true := vx_ot_at hW0 hvm.symm (hgood _ (List.mem_cons_of_mem _ List.mem_cons_self)) hini
  have hU' : vx_Zq Bundle.tN "UNASSIGNED_STACK" Bundle.steD A s' s'.heap := by rw [hhp]; exact vx_Zq.moved hW0.alike (hU.kept hS.2.1)
  have hN' : vx_Zq Bundle.tN "SUPPRESSED_SENTINEL" Bundle.listD A s' s'.heap := by rw [hhp]; exact vx_Zq.moved hW0.alike (hN.kept hS.2.1)
  have h : ∀ w ∈ qOwn own ic, w.before args s' = true := vx_own hat' (vx_isRefq hU'.1) (vx_isRefq hN'.1) hU'.2.word hN'.2.word
  have hown' : s'.vm.findClass own = some m.cls := by rw [hvm]; exact hown
  have hins : (Cond.instantiable qNse 6).before args s' = true := h _ (by simp [qOwn])
  obtain ⟨vm₁, cX, kX, hfX, hkX, -, -, X₁, st1⟩ := Y.newCold hexec (own := own) (C := qNse) (index := ik) (n := 6) hown' hk' hins hini'
    (g := F0 m pc ls rest) rfl (by rw [hb]; exact d0) (Nat.le_refl _) (Nat.le_refl _)
  generalize hT1 : (T.setVm vm₁).pushCell { cls := cX, slots := kX.instanceTypes.map defaultValue, vm := .none } = T1 at X₁ st1
  have hcat : (Value.ref T.heap.size).category = 1 := rfl
  have hcellA : T1.heap[T.heap.size]? = some (freshCell cX kX) := by rw [← hT1]; exact State.heap_pushCell_size _ _
  have d3' : decode c.code (pc + 3) = .ok (.dup, 1) := by rw [hb]; exact d3
  have d4' : decode c.code (pc + 4) = .ok (.ldc is, 2) := by rw [hb]; exact d4
  have hstr' : vk_R own is text sa s' := vk_R.warm hW0 hstr
  obtain ⟨U, hsteps, hrun, hend, hW, hsame, ce, hce, hO, hO2⟩ := qctorS X₁ hexec htr (own := own) (ic := ic) hown' h (fun x hx => nomatch hx) hfX hkX hcellA (by rw [hhp, hT]; exact Nat.le_refl _) (msg := .ref sa) rfl
    (g := { method := m, pc := pc + 6, locals := ls, stack := .ref sa :: .ref T.heap.size :: .ref T.heap.size :: rest, locked := none }) rfl hsize rfl rfl (rest := rest) rfl
    (by rw [hb]; exact d6) (by rw [hb]; exact d9) hout hRframes (by simp only [List.map_cons, List.sum_cons, hcat]; omega) hlocks
  obtain ⟨f1, f2⟩ := vx_frame hsame
  rw [hhp] at f1 f2
  have hz1 : U.heap.size = H.size + 1 := by
    have h7 : T.heap.size < U.heap.size := (Array.getElem?_eq_some_iff.mp hce).1
    have h8 : U.heap.size ≤ s'.heap.size + (0 + 1) := hsame.2.2.1
    rw [hhp] at h8
    rw [hT] at h7
    omega
  have hWs : s.WarmedH U.vm := State.WarmedH.trans hW0 hW
  have hcl : s.vm.findClass qNse = some ce.cls := by
    have h9 := hO2
    rw [hvm] at h9
    exact h9
  have hall : s.sameButNew ({ U with vm := s.vm } : State) locs mc ms := by
    subst hA
    obtain ⟨e1, e2⟩ := hsame
    rw [State.setFrames_setFrames] at e1
    have h2 : (T.setVm s.vm).sameButNew ({ U with vm := s.vm } : State) [] (0 + 1) (0 + 6) := ⟨e1, e2⟩
    have h3 := X.same.trans h2
    rw [List.append_nil] at h3
    exact h3.mono hc hs
  refine ⟨U, ?_, .threw T.heap.size, hrun, hend, Or.inr ⟨T.heap.size, rfl, qNse, ce, locs, hx U hWs.alike hz1 (fun q hq => f2 q hq (fun z hz => nomatch hz)), hce, hO, hcl, hWs, hall, hf⟩⟩
  refine st1 _ ?_
  show Steps p.tables e below (T1.setTop { method := m, pc := pc + 3, locals := ls, stack := .ref T.heap.size :: rest, locked := none }) _
  jvm_step X₁.here [X₁.here.top, hexec, d3', Value.category]
  exact X₁.ldcString hexec (own := own) (text := text) (index := is) (a := sa) hown' hstr'.1 hstr'.2
    (g := { method := m, pc := pc + 4, locals := ls, stack := .ref T.heap.size :: .ref T.heap.size :: rest, locked := none }) rfl d4' _ hsteps
end QTHR
def qbp (g : qG) : qG := (g.1, g.2.1, g.2.2.1 + 1, g.2.2.2 + 6)
theorem qHp.bump {X : qX} {g : qG} {I : qI} {J : qJ} {H H1 : Heap} (h : qHp X g I J H) (hz : H1.size = H.size + 1) (ho : ∀ q, q < H.size → H1[q]? = H[q]?) : qHp X (qbp g) I J H1 := by
  have hs := h.size
  obtain ⟨⟨h1, h2⟩, h3, h4⟩ := h
  refine ⟨⟨by show 4 ≤ g.2.2.1 + 1; omega, by show H1.size + 4 = xB X + (g.2.2.1 + 1); omega⟩, fun q hq => ?_, fun b kb nb hb => ?_⟩
  · rw [ho q (by omega)]
    exact h3 q hq
  · have hb' : g.1 b = some (kb, nb) := hb
    rcases h4 b kb nb hb' with ⟨rfl, h6, h7, h8⟩ | ⟨h5, h6, h7, h8⟩
    · exact Or.inl ⟨rfl, h6, h7, h8⟩
    · refine Or.inr ⟨h5, Nat.lt_succ_of_lt h6, h7, ?_⟩
      have e : qce X (qbp g) I J b kb nb = qce X g I J b kb nb := by
        unfold qce qca qfv
        rfl
      rw [e]
      refine h8.kept (ho _ ?_)
      rw [qrho_ge h5]
      omega
def qL9 : List Cond := (lw_tbl.drop 121).take 40 ++ ((lw_tbl.drop 1005).take 80 ++ (lw_tbl.drop 1720).take 25)
theorem qL9_in {w : Cond} (h : w ∈ qL9) : w ∈ lw_tbl := by
  unfold qL9 at h
  rcases List.mem_append.mp h with h | h
  · exact List.mem_of_mem_drop (List.mem_of_mem_take h)
  · rcases List.mem_append.mp h with h | h
    · exact List.mem_of_mem_drop (List.mem_of_mem_take h)
    · exact List.mem_of_mem_drop (List.mem_of_mem_take h)
set_option maxRecDepth 100000 in
theorem qat_all : (qAtS RX9 157).all (fun w => decide (w ∈ qDcs.map Cond.declares) || decide (w ∈ qL9) && goodWord w) = true := by decide +kernel
theorem qat_in : ∀ w ∈ qAtS RX9 157, (∃ x, x ∈ qDcs ∧ w = .declares x) ∨ w ∈ qTs ∧ goodWord w = true := by
  intro w hw
  have h := List.all_eq_true.mp qat_all w hw
  rw [Bool.or_eq_true, Bool.and_eq_true] at h
  rcases h with h | h
  · obtain ⟨x, h1, h2⟩ := List.mem_map.mp (of_decide_eq_true h)
    exact Or.inl ⟨x, h1, h2.symm⟩
  · exact Or.inr ⟨List.mem_filter.mpr ⟨qL9_in (of_decide_eq_true h.1), h.2⟩, h.2⟩
set_option maxRecDepth 100000 in
theorem qw_k9 : Cond.classLink RX9 153 qNse ∈ qTs := qTs_mem (i := 1017) rfl rfl
set_option maxRecDepth 100000 in
theorem qw_i9 : Cond.initialized qNse ∈ qTs := qTs_mem (i := 143) rfl rfl
set_option maxRecDepth 100000 in
theorem qw_kL : Cond.classLink RL 13 qNse ∈ qTs := qTs_mem (i := 1012) rfl rfl
def qnw : Instr → Bool
  | .new _ => true
  | _ => false
theorem q108a : ∀ pc, pc < 48 → (match qP 108 pc with | some x => bif qnw x.1 then Nat.beq pc 13 else true | none => true) = true := by decide +kernel
theorem q108b {pc : Nat} (h : 48 ≤ pc) : qP 108 pc = none := by
  have e : pc / 16 = (pc / 16 - 3) + 3 := by omega
  unfold qP
  rw [e]
  rfl
theorem q108 {pc ix len b t : Nat} (h : qP 108 pc = some (.new ix, len, 99, b, t)) : pc = 13 ∧ ix = 153 := by
  by_cases hp : pc < 48
  · have h1 := q108a pc hp
    rw [h] at h1
    have h2 : pc = 13 := Nat.eq_of_beq_eq_true h1
    subst h2
    have h3 : qP 108 13 = some (.new 153, 3, 99, 6, 0) := rfl
    rw [h3] at h
    simp only [Option.some.injEq, Prod.mk.injEq, Instr.new.injEq] at h
    exact ⟨rfl, h.1.symm⟩
  · rw [q108b (by omega)] at h
    cases h
def qXC (X : qX) (g : qG) (I : qI) (J : qJ) : String → State → State → Prop := fun E _ t => E = qNse ∧ qHp X (qbp g) I J t.heap
section QTH
variable {l : Launch} {X : qX}
theorem qHp_S {g g' : qG} {I I' : qI} {J J' : qJ} {H H1 : Heap} {locs : List Loc} (h : qHp X g I J H) (h1 : qHp X g' I' J' H1) (hz : g.2.2.1 ≤ g'.2.2.1) (hlo : ∀ z ∈ locs, xB X ≤ z.base) : va_S (qAA X) H H1 locs := by
  refine ⟨by have := h.1.2; have := h1.1.2; omega, fun q hq hn => ?_, fun q hq => hlo q hq⟩
  have hb : q < xB X := by
    rcases Nat.lt_or_ge q (xB X) with h | h
    · exact h
    · exact absurd h hn
  rw [h1.2.1 q hb, h.2.1 q hb]
theorem qthr_met (hl : l.stackTraces = false) (hSl : qSl l X) (hSc : qSc l X) {n d : Nat} {as : List Value} {g : qG} {I : qI} {J : qJ} {v : Option Value} {g' : qG} {I' : qI} {J' : qJ} (h : qrun n d 108 (0, qent 108 as, [], g, I, J) = some (v, g', I', J')) (ht : qthr v = true) (hq : (qlay as).length ≤ qML 108) :
    vx_Met l (qYm 108).1 (qWs 108) (qRm d (g'.2.2.1 - g.2.2.1 + 1) (g'.2.2.2 - g.2.2.2 + 6)) (va_Pc (as.map (qv X)) (qPre X g I J)) (fun _ _ _ _ => False) (qXC X g' I' J') (g'.2.2.1 - g.2.2.1 + 1) (g'.2.2.2 - g.2.2.2 + 6) (qAA X) := by
  obtain ⟨y1, y2, y3, y4, y5, y6⟩ := qYm_cls 108 (by omega)
  refine vx_ofW (cc := (qYm 108).2.1) (maxL := (qYm 108).2.2.1) (ret := (qYm 108).2.2.2) y2 rfl ?_
  intro p e s mI args below meth c s₁ B hml htab hv
  obtain ⟨rfl, hH, hcx⟩ := hv
  have hts := atoms_spec (ws := qWs 108) B.pre
  have hown : s.vm.findClass (qYm 108).1.cls = some mI.cls := findClass_of_methodNamed B.named
  rw [y1] at hown
  have hnm : meth.name = (qYm 108).1.name := (name_of_methodNamed B.named B.method).1
  have htt : ∀ w ∈ qTs, w.before (as.map (qv X)).toArray s = true := fun w hw => hts w (List.mem_cons_of_mem _ hw)
  have M : qMx p s mI (as.map (qv X)).toArray meth c 108 X := ⟨B.exec, B.bytes, by rw [hml, y5], hown, htt, hcx, hnm⟩
  have hsz := qrun_sz _ _ _ _ _ _ _ _ h
  dsimp only at hsz
  rw [lg_entry_eq, y5]
  refine qWR_all hSl hSc n 108 (by omega) d 0 (qent 108 as) [] g I J v g' I' J' h p e _ s mI _ below meth c s.heap [] 0 0 _ _ M ⟨Nat.le_refl _, Nat.le_refl _⟩ (by rw [Nat.zero_add]; exact Nat.le_succ _) (by rw [Nat.zero_add]; exact Nat.le_add_right _ _) (qLs_entry X as (qML 108) hq) hH (fun z hz => by cases hz) ?_
  intro x pc2 lv2 st2 ls2 H2 locs2 hx hs hL hH2 hlo
  obtain ⟨i, len, a, b, t⟩ := x
  have hcs := qstep_rets hs
  dsimp only at hcs
  rcases hcs with ⟨y, -, -, rfl, -⟩ | ⟨y, -, -, rfl⟩ | ⟨y, -, -, rfl⟩ | ⟨-, -, rfl⟩ | ⟨-, -, rfl⟩ | ⟨ix, rfl, rfl, rfl, rfl⟩
  · cases ht
  · cases ht
  · cases ht
  · cases ht
  · cases ht
  · obtain ⟨rfl, rfl⟩ := q108 hx
    obtain ⟨⟨sa, x1⟩, x2, x3, x4, x5⟩ := hcx.2.2.2.2.2.1
    have hkp : ∀ q : Nat, q < (xH X).size → ¬ qAA X q → s.heap[q]? = (xH X)[q]? := fun q hq hn => hH.2.1 q (by
      rcases Nat.lt_or_ge q (xB X) with h | h
      · exact h
      · exact absurd h hn)
    rw [Nat.zero_add, Nat.zero_add]
    refine qthrowS (cc := cX9_coefficient) (pc := 13) B.exec B.bytes hl (own := RX9) (text := "not known") (ik := 153) (is := 155) (ic := 157) (sa := sa) (A := qAA X) hown (htt _ qw_k9) (htt _ qw_i9) x1 (fun w hw => (qat_in w hw).elim (fun ⟨x, h1, h2⟩ => by rw [h2]; exact x5 x h1 _) (fun h => htt w h.1)) ?_ (x2.kept hkp) (x3.kept hkp) (qHp_S hH hH2 hsz.1 hlo) (by rw [hL.size, hml, y5])
      (by decide) (by decide) (by decide) (by decide) (by decide) (fun x hx => (htab x hx).elim) ?_ ?_ (Nat.le_refl _) (Nat.le_refl _) B.notSynchronized ?_ hlo (Nat.le_refl _) (Nat.le_refl _)
    · intro w hw
      have hg : vx_ot w = true := by
        rcases List.mem_cons.mp hw with rfl | hw
        · rfl
        · rcases List.mem_cons.mp hw with rfl | hw
          · rfl
          · rcases qat_in w hw with ⟨x, -, rfl⟩ | h9
            · rfl
            · unfold vx_ot
              rw [h9.2, Bool.or_true]
      exact hg
    · show 2 + 3 < d + 10
      omega
    · show 0 + (13 * (2 + 1) + 43) ≤ 64 * d + 200
      omega
    · intro t _ hz hk
      exact ⟨rfl, hH2.bump hz hk⟩
end QTH
