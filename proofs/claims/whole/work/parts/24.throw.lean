/-! the method that throws (108) and the one that catches (269) -/
section QTHR
variable {p : Program} {l : Launch} {e : Env} {R : Room} {s : State} {m : MethodId} {args : Array Value} {below : List Frame} {meth : Method} {c : Code} {H : Heap} {locs : List Loc} {cells slots : Nat} {Q : State → Prop}
variable {mc ms : Nat} {free : Addr → Prop} {a : Array Value} {ls : Array Slot} {st0 rest : List Value}
variable {Qc : Array Value → State → Outcome → State → Prop} {XC : String → State → State → Prop}
theorem qthrowS {cc : ByteArray} {pc : Nat} (hexec : p.tables.exec = Jvm.exec) (hb : c.code = cc) (hl : l.stackTraces = false) {own cls text : String} {names : List String} {ik is ic mc ms sa : Nat} {A : Nat → Prop}
    (hown : s.vm.findClass own = some m.cls) (hcls : Bundle.fit cls = true) (hnames : ∀ n ∈ names, Bundle.fit n = true)
    (hk : (Cond.classLink own ik cls).before args s = true) (hini : (Cond.initialized cls).before args s = true) (hstr : vk_R own is text sa s) (hat : ∀ w ∈ vx_atS own ic cls names, w.before args s = true)
    (hgood : ∀ w ∈ Cond.classLink own ik cls :: Cond.initialized cls :: vx_atS own ic cls names, vx_ot w = true)
    (hU : vx_Zq Bundle.tN "UNASSIGNED_STACK" Bundle.steD A s s.heap) (hN : vx_Zq Bundle.tN "SUPPRESSED_SENTINEL" Bundle.listD A s s.heap) (hS : va_S A s.heap H locs) (hsize : ls.size = c.maxLocals)
    (d0 : decode cc pc = .ok (.new ik, 3)) (d3 : decode cc (pc + 3) = .ok (.dup, 1)) (d4 : decode cc (pc + 4) = .ok (.ldc is, 2)) (d6 : decode cc (pc + 6) = .ok (.invokespecial ic, 3)) (d9 : decode cc (pc + 9) = .ok (.athrow, 1))
    (hout : ∀ x ∈ c.exceptionTable.toList, covers x (pc + 9) = false)
    (hRframes : names.length + 3 < R.frames) (hRlocals : (rest.map fun v => v.category).sum + (13 * (names.length + 1) + 43) ≤ R.locals) (hRcells : cells + 1 ≤ R.cells) (hRslots : slots + 6 ≤ R.slots) (hlocks : meth.locks = false)
    (hx : ∀ t : State, s.vm.Alike t.vm → t.heap.size = H.size + 1 → (∀ q : Nat, q < H.size → t.heap[q]? = H[q]?) → XC cls s t)
    (hf : ∀ z ∈ locs, free z.base) (hc : cells + 1 ≤ mc) (hs : slots + 6 ≤ ms) :
    W p l e R s m args below meth c H locs cells slots (vx_MQ below Qc XC args s mc ms free) (F0 m pc ls rest) := by
  intro T hT X
  have htr : e.platform.stackTraces = false := (show e.platform.stackTraces = l.stackTraces by rw [X.admits.platform]).trans hl
  have Y := vx_rebase X (R' := { frames := R.frames, locals := R.locals, cells := 1, slots := 6 }) (Nat.le_refl _) (Nat.le_refl _) hRcells hRslots
  obtain ⟨s', hA⟩ : ∃ z, z = (T.setVm s.vm).setFrames (.invoking m args :: below) := ⟨_, rfl⟩
  rw [← hA] at Y
  have hvm : s'.vm = s.vm := by rw [hA]; rfl
  have hhp : s'.heap = H := by rw [hA]; exact hT
  have hW0 : s.WarmedH s'.vm := by rw [hvm]; exact State.WarmedH.refl s
  have hat' : ∀ w ∈ vx_atS own ic cls names, w.before args s' = true := fun w hw => vx_ot_at hW0 hvm.symm (hgood w (List.mem_cons_of_mem _ (List.mem_cons_of_mem _ hw))) (hat w hw)
  have hk' : (Cond.classLink own ik cls).before args s' = true := vx_ot_at hW0 hvm.symm (hgood _ List.mem_cons_self) hk
  have hini' : (Cond.initialized cls).before args s' = true := vx_ot_at hW0 hvm.symm (hgood _ (List.mem_cons_of_mem _ List.mem_cons_self)) hini
  have hU' : vx_Zq Bundle.tN "UNASSIGNED_STACK" Bundle.steD A s' s'.heap := by rw [hhp]; exact vx_Zq.moved hW0.alike (hU.kept hS.2.1)
  have hN' : vx_Zq Bundle.tN "SUPPRESSED_SENTINEL" Bundle.listD A s' s'.heap := by rw [hhp]; exact vx_Zq.moved hW0.alike (hN.kept hS.2.1)
  have h : ∀ w ∈ Bundle.ownAtoms own ic cls names, w.before args s' = true := vx_own hat' (vx_isRefq hU'.1) (vx_isRefq hN'.1) hU'.2.word hN'.2.word
  have hown' : s'.vm.findClass own = some m.cls := by rw [hvm]; exact hown
  have hins : (Cond.instantiable cls 6).before args s' = true := h _ (by simp [Bundle.ownAtoms])
  obtain ⟨vm₁, cX, kX, hfX, hkX, -, -, X₁, st1⟩ := Y.newCold hexec (own := own) (C := cls) (index := ik) (n := 6) hown' hk' hins hini'
    (g := F0 m pc ls rest) rfl (by rw [hb]; exact d0) (Nat.le_refl _) (Nat.le_refl _)
  generalize hT1 : (T.setVm vm₁).pushCell { cls := cX, slots := kX.instanceTypes.map defaultValue, vm := .none } = T1 at X₁ st1
  have hcat : (Value.ref T.heap.size).category = 1 := rfl
  have hcellA : T1.heap[T.heap.size]? = some (freshCell cX kX) := by rw [← hT1]; exact State.heap_pushCell_size _ _
  have d3' : decode c.code (pc + 3) = .ok (.dup, 1) := by rw [hb]; exact d3
  have d4' : decode c.code (pc + 4) = .ok (.ldc is, 2) := by rw [hb]; exact d4
  have hstr' : vk_R own is text sa s' := vk_R.warm hW0 hstr
  obtain ⟨U, hsteps, hrun, hend, hW, hsame, ce, hce, hO⟩ := X₁.ctorThrowS hexec htr (own := own) (cls := cls) (names := names) (ic := ic) hown' hcls hnames h (fun x hx => nomatch hx) hfX hkX hcellA (by rw [hhp, hT]; exact Nat.le_refl _) (msg := .ref sa) rfl
    (g := { method := m, pc := pc + 6, locals := ls, stack := .ref sa :: .ref T.heap.size :: .ref T.heap.size :: rest, locked := none }) rfl hsize rfl rfl (rest := rest) rfl
    (by rw [hb]; exact d6) (by rw [hb]; exact d9) hout hRframes (by simp only [List.map_cons, List.sum_cons, hcat]; omega) hlocks
  obtain ⟨f1, f2⟩ := vx_frame hsame
  rw [hhp] at f1 f2
  have hz1 : U.heap.size = H.size + 1 := by
    have h7 : T.heap.size < U.heap.size := (Array.getElem?_eq_some_iff.mp hce).1
    have h8 : U.heap.size ≤ s'.heap.size + (0 + 1) := hsame.2.2.1
    rw [hhp] at h8
    rw [hT] at h7
    omega
  have hWs : s.WarmedH U.vm := State.WarmedH.trans hW0 hW
  have hcl : s.vm.findClass cls = some ce.cls := by
    have h9 := hO.cls
    rw [hvm] at h9
    exact h9
  have hall : s.sameButNew ({ U with vm := s.vm } : State) locs mc ms := by
    subst hA
    obtain ⟨e1, e2⟩ := hsame
    rw [State.setFrames_setFrames] at e1
    have h2 : (T.setVm s.vm).sameButNew ({ U with vm := s.vm } : State) [] (0 + 1) (0 + 6) := ⟨e1, e2⟩
    have h3 := X.same.trans h2
    rw [List.append_nil] at h3
    exact h3.mono hc hs
  refine ⟨U, ?_, .threw T.heap.size, hrun, hend, Or.inr ⟨T.heap.size, rfl, cls, ce, locs, hx U hWs.alike hz1 (fun q hq => f2 q hq (fun z hz => nomatch hz)), hce, hO.vm, hcl, hWs, hall, hf⟩⟩
  refine st1 _ ?_
  show Steps p.tables e below (T1.setTop { method := m, pc := pc + 3, locals := ls, stack := .ref T.heap.size :: rest, locked := none }) _
  jvm_step X₁.here [X₁.here.top, hexec, d3', Value.category]
  exact X₁.ldcString hexec (own := own) (text := text) (index := is) (a := sa) hown' hstr'.1 hstr'.2
    (g := { method := m, pc := pc + 4, locals := ls, stack := .ref T.heap.size :: .ref T.heap.size :: rest, locked := none }) rfl d4' _ hsteps
end QTHR
def qbp (g : qG) : qG := (g.1, g.2.1, g.2.2.1 + 1, g.2.2.2 + 6)
theorem qHp.bump {X : qX} {g : qG} {I : qI} {J : qJ} {H H1 : Heap} (h : qHp X g I J H) (hz : H1.size = H.size + 1) (ho : ∀ q, q < H.size → H1[q]? = H[q]?) : qHp X (qbp g) I J H1 := by
  have hs := h.size
  obtain ⟨⟨h1, h2⟩, h3, h4⟩ := h
  refine ⟨⟨by show 4 ≤ g.2.2.1 + 1; omega, by show H1.size + 4 = xB X + (g.2.2.1 + 1); omega⟩, fun q hq => ?_, fun b kb nb hb => ?_⟩
  · rw [ho q (by omega)]
    exact h3 q hq
  · have hb' : g.1 b = some (kb, nb) := hb
    rcases h4 b kb nb hb' with ⟨rfl, h6, h7, h8⟩ | ⟨h5, h6, h7, h8⟩
    · exact Or.inl ⟨rfl, h6, h7, h8⟩
    · refine Or.inr ⟨h5, Nat.lt_succ_of_lt h6, h7, ?_⟩
      have e : qce X (qbp g) I J b kb nb = qce X g I J b kb nb := by
        unfold qce qca qfv
        rfl
      rw [e]
      refine h8.kept (ho _ ?_)
      rw [qrho_ge h5]
      omega
abbrev qNse : String := "java/util/NoSuchElementException"
abbrev qNss : List String := ["java/lang/RuntimeException", "java/lang/Exception"]
def qL9 : List Cond := (lw_tbl.drop 121).take 40 ++ ((lw_tbl.drop 1005).take 80 ++ (lw_tbl.drop 1720).take 25)
theorem qL9_in {w : Cond} (h : w ∈ qL9) : w ∈ lw_tbl := by
  unfold qL9 at h
  rcases List.mem_append.mp h with h | h
  · exact List.mem_of_mem_drop (List.mem_of_mem_take h)
  · rcases List.mem_append.mp h with h | h
    · exact List.mem_of_mem_drop (List.mem_of_mem_take h)
    · exact List.mem_of_mem_drop (List.mem_of_mem_take h)
set_option maxRecDepth 100000 in
theorem qat_all : (vx_atS RX9 157 qNse qNss).all (fun w => decide (w = .castable qNse qNse) || decide (w ∈ qL9) && goodWord w) = true := by decide +kernel
theorem qat_in : ∀ w ∈ vx_atS RX9 157 qNse qNss, w = .castable qNse qNse ∨ w ∈ qTs ∧ goodWord w = true := by
  intro w hw
  have h := List.all_eq_true.mp qat_all w hw
  rw [Bool.or_eq_true, Bool.and_eq_true] at h
  rcases h with h | h
  · exact Or.inl (of_decide_eq_true h)
  · exact Or.inr ⟨List.mem_filter.mpr ⟨qL9_in (of_decide_eq_true h.1), h.2⟩, h.2⟩
set_option maxRecDepth 100000 in
theorem qw_k9 : Cond.classLink RX9 153 qNse ∈ qTs := qTs_mem (i := 1017) rfl rfl
set_option maxRecDepth 100000 in
theorem qw_i9 : Cond.initialized qNse ∈ qTs := qTs_mem (i := 143) rfl rfl
set_option maxRecDepth 100000 in
theorem qw_kL : Cond.classLink RL 13 qNse ∈ qTs := qTs_mem (i := 1012) rfl rfl
def qnw : Instr → Bool
  | .new _ => true
  | _ => false
theorem q108a : ∀ pc, pc < 48 → (match qP 108 pc with | some x => bif qnw x.1 then Nat.beq pc 13 else true | none => true) = true := by decide +kernel
theorem q108b {pc : Nat} (h : 48 ≤ pc) : qP 108 pc = none := by
  have e : pc / 16 = (pc / 16 - 3) + 3 := by omega
  unfold qP
  rw [e]
  rfl
theorem q108 {pc ix len b t : Nat} (h : qP 108 pc = some (.new ix, len, 99, b, t)) : pc = 13 ∧ ix = 153 := by
  by_cases hp : pc < 48
  · have h1 := q108a pc hp
    rw [h] at h1
    have h2 : pc = 13 := Nat.eq_of_beq_eq_true h1
    subst h2
    have h3 : qP 108 13 = some (.new 153, 3, 99, 6, 0) := rfl
    rw [h3] at h
    simp only [Option.some.injEq, Prod.mk.injEq, Instr.new.injEq] at h
    exact ⟨rfl, h.1.symm⟩
  · rw [q108b (by omega)] at h
    cases h
def qXC (X : qX) (g : qG) (I : qI) (J : qJ) : String → State → State → Prop := fun E _ t => E = qNse ∧ qHp X (qbp g) I J t.heap
section QTH
variable {l : Launch} {X : qX}
theorem qHp_S {g g' : qG} {I I' : qI} {J J' : qJ} {H H1 : Heap} {locs : List Loc} (h : qHp X g I J H) (h1 : qHp X g' I' J' H1) (hz : g.2.2.1 ≤ g'.2.2.1) (hlo : ∀ z ∈ locs, xB X ≤ z.base) : va_S (qAA X) H H1 locs := by
  refine ⟨by have := h.1.2; have := h1.1.2; omega, fun q hq hn => ?_, fun q hq => hlo q hq⟩
  have hb : q < xB X := by
    rcases Nat.lt_or_ge q (xB X) with h | h
    · exact h
    · exact absurd h hn
  rw [h1.2.1 q hb, h.2.1 q hb]
theorem qthr_met (hl : l.stackTraces = false) (hSl : qSl l X) (hSc : qSc l X) {n d : Nat} {as : List Value} {g : qG} {I : qI} {J : qJ} {v : Option Value} {g' : qG} {I' : qI} {J' : qJ} (h : qrun n d 108 (0, qent 108 as, [], g, I, J) = some (v, g', I', J')) (ht : qthr v = true) (hq : (qlay as).length ≤ qML 108) :
    vx_Met l (qYm 108).1 (qWs 108) (qRm d (g'.2.2.1 - g.2.2.1 + 1) (g'.2.2.2 - g.2.2.2 + 6)) (va_Pc (as.map (qv X)) (qPre X g I J)) (fun _ _ _ _ => False) (qXC X g' I' J') (g'.2.2.1 - g.2.2.1 + 1) (g'.2.2.2 - g.2.2.2 + 6) (qAA X) := by
  obtain ⟨y1, y2, y3, y4, y5, y6⟩ := qYm_cls 108 (by omega)
  refine vx_ofW (cc := (qYm 108).2.1) (maxL := (qYm 108).2.2.1) (ret := (qYm 108).2.2.2) y2 rfl ?_
  intro p e s mI args below meth c s₁ B hml htab hv
  obtain ⟨rfl, hH, hcx⟩ := hv
  have hts := atoms_spec (ws := qWs 108) B.pre
  have hown : s.vm.findClass (qYm 108).1.cls = some mI.cls := findClass_of_methodNamed B.named
  rw [y1] at hown
  have hnm : meth.name = (qYm 108).1.name := (name_of_methodNamed B.named B.method).1
  have htt : ∀ w ∈ qTs, w.before (as.map (qv X)).toArray s = true := fun w hw => hts w (List.mem_cons_of_mem _ hw)
  have M : qMx p s mI (as.map (qv X)).toArray meth c 108 X := ⟨B.exec, B.bytes, by rw [hml, y5], hown, htt, hcx, hnm⟩
  have hsz := qrun_sz _ _ _ _ _ _ _ _ h
  dsimp only at hsz
  rw [lg_entry_eq, y5]
  refine qWR_all hSl hSc n 108 (by omega) d 0 (qent 108 as) [] g I J v g' I' J' h p e _ s mI _ below meth c s.heap [] 0 0 _ _ M ⟨Nat.le_refl _, Nat.le_refl _⟩ (by rw [Nat.zero_add]; exact Nat.le_succ _) (by rw [Nat.zero_add]; exact Nat.le_add_right _ _) (qLs_entry X as (qML 108) hq) hH (fun z hz => by cases hz) ?_
  intro x pc2 lv2 st2 ls2 H2 locs2 hx hs hL hH2 hlo
  obtain ⟨i, len, a, b, t⟩ := x
  have hcs := qstep_rets hs
  dsimp only at hcs
  rcases hcs with ⟨y, -, -, rfl, -⟩ | ⟨y, -, -, rfl⟩ | ⟨y, -, -, rfl⟩ | ⟨-, -, rfl⟩ | ⟨-, -, rfl⟩ | ⟨ix, rfl, rfl, rfl, rfl⟩
  · cases ht
  · cases ht
  · cases ht
  · cases ht
  · cases ht
  · obtain ⟨rfl, rfl⟩ := q108 hx
    obtain ⟨⟨sa, x1⟩, x2, x3, x4⟩ := hcx.2.2.2.2.2.1
    have hkp : ∀ q : Nat, q < (xH X).size → ¬ qAA X q → s.heap[q]? = (xH X)[q]? := fun q hq hn => hH.2.1 q (by
      rcases Nat.lt_or_ge q (xB X) with h | h
      · exact h
      · exact absurd h hn)
    rw [Nat.zero_add, Nat.zero_add]
    refine qthrowS (cc := cX9_coefficient) (pc := 13) B.exec B.bytes hl (own := RX9) (cls := qNse) (text := "not known") (names := qNss) (ik := 153) (is := 155) (ic := 157) (sa := sa) (A := qAA X) hown rfl (by decide) (htt _ qw_k9) (htt _ qw_i9) x1 (fun w hw => (qat_in w hw).elim (fun h => by rw [h]; exact x4 _) (fun h => htt w h.1)) ?_ (x2.kept hkp) (x3.kept hkp) (qHp_S hH hH2 hsz.1 hlo) (by rw [hL.size, hml, y5])
      (by decide) (by decide) (by decide) (by decide) (by decide) (fun x hx => (htab x hx).elim) ?_ ?_ (Nat.le_refl _) (Nat.le_refl _) B.notSynchronized ?_ hlo (Nat.le_refl _) (Nat.le_refl _)
    · intro w hw
      have hg : vx_ot w = true := by
        rcases List.mem_cons.mp hw with rfl | hw
        · rfl
        · rcases List.mem_cons.mp hw with rfl | hw
          · rfl
          · rcases qat_in w hw with rfl | h9
            · rfl
            · unfold vx_ot
              rw [h9.2, Bool.or_true]
      exact hg
    · show 2 + 3 < d + 10
      omega
    · show 0 + (13 * (2 + 1) + 43) ≤ 64 * d + 200
      omega
    · intro t _ hz hk
      exact ⟨rfl, hH2.bump hz hk⟩
end QTH
