/-! THE CLAIM OUT OF ONE WALK OF THE LAW'S BODY. Your part is whole_start (and what it stands on); all else here is the same for every law, but numbers. -/
def R_law : String := "SeriesDeskLaw"
def lw_P (b : Addr) (xs : List Int32) (args : Array Value) (s : State) : Prop := args = #[.ref b] ∧ s.IntsAt b xs ∧ xs.length ≤ 3584 ∧ (Jvm.Cond.and given_1 narrow_1).before args s = true
def lw_Q (_ : Array Value) (s : State) (o : Outcome) (t : State) : Prop := o = .returned (some (.int 1)) ∧ Framed s o t [] 601024 7293034
def lw_Z (below : List Frame) (a : Array Value) (s : State) : State → Prop := fun t => ∃ o, t.status = .running ∧ Ended t below o ∧ lw_Q a s o t
/-- the law's own end, with 1 on the stack, nothing written that was there before, its room as the claim has it -/
theorem lw_ret {p : Program} {l : Launch} {e : Env} {s : State} {m : MethodId} {below : List Frame} {meth : Method} {c : Code} {b : Nat} (hx : p.tables.exec = Jvm.exec) (hb : c.code = code) (hr : meth.sig.returnType = ret) (hlocks : meth.locks = false) {pc : Nat} {H : Heap} {ls : Array Slot} (hdg : decode code pc = .ok (.ireturn, 1)) : W p l e room_1 s m #[Value.ref b] below meth c H [] 601024 7293034 (lw_Z below #[Value.ref b] s) (F0 m pc ls [.int 1]) := by
  intro T hT X
  obtain ⟨fs, hret, hrun, hended, hW, hframe⟩ := X.leave (v := some (.int 1)) (hlocks := hlocks) (fun h => by rw [hr] at h; cases h)
  have hmeth' : T.vm.method? m = some meth := X.method'
  refine ⟨T.setFrames fs, ?_, .returned (some (.int 1)), hrun, hended, rfl, ⟨_, rfl⟩, hW, hframe⟩
  jvm_step X.here [X.here.top, hx, hb, hdg, hmeth', hr, ret, narrow_b1]
  (try refine ⟨rfl, ?_⟩); (try refine ⟨rfl, ?_⟩)
  first | (intro acts; rw [hret _ acts rfl rfl rfl]) | rw [hret _ _ rfl rfl rfl]
  exact Steps.refl _
/-- what holds at the law's entry: the machine, the code, the tables' words (any of lw_tbl by 'hts w (by decide +kernel)'), the script of L ints xs at the cell b, what the Statement gives of the start (any of its parts by flat_of_before) -/
def lw_At (p : Program) (s : State) (m : MethodId) (meth : Method) (c : Code) (b L : Nat) (xs : Nat → Int32) : Prop :=
  p.tables.exec = Jvm.exec ∧ c.code = code ∧ meth.sig.returnType = ret ∧ c.maxLocals = 7 ∧ s.vm.findClass R_law = some m.cls ∧ (∀ w ∈ lw_tbl, w.before #[Value.ref b] s = true) ∧ va_X b L xs s s.heap ∧ b < s.heap.size ∧ meth.locks = false ∧ (Jvm.Cond.and given_1 narrow_1).before #[Value.ref b] s = true ∧ meth.name = (qYm 270).1.name
/-! the start: what the Statement gives of it -/
def tmS (i : Nat) : Term := .string RX10 ([110, 152, 154].getD i 0)
section STARTS
variable {p : Program} {e : Env} {s : State} {m : MethodId} {below : List Frame} {meth : Method} {c : Code} {b L : Nat} {xs : Nat → Int32} {A : Array Value}
theorem st_ex : ∀ i, i < 3 → Cond.exactly (tmS i) "java/lang/String" ∈ flatC (Jvm.Cond.and given_1 narrow_1) := by decide +kernel
theorem st_co : ∀ i, i < 3 → Cond.eq (.field (tmS i) "java/lang/String" "coder" "B") (.int 0) ∈ flatC (Jvm.Cond.and given_1 narrow_1) := by decide +kernel
theorem st_ar : ∀ i, i < 3 → Cond.arrayOf (.field (tmS i) "java/lang/String" "value" "[B") .byte ∈ flatC (Jvm.Cond.and given_1 narrow_1) := by decide +kernel
theorem st_le : ∀ i, i < 3 → Cond.eq (.length (.field (tmS i) "java/lang/String" "value" "[B")) (.int (Int32.ofNat (qlens.getD i 0))) ∈ flatC (Jvm.Cond.and given_1 narrow_1) := by decide +kernel
theorem st_el : ∀ i, i < 3 → ∀ j, j < qlens.getD i 0 → Cond.eq (.elem (.field (tmS i) "java/lang/String" "value" "[B") (.int (Int32.ofNat j))) (.int ((qbyts.getD i []).getD j 0)) ∈ flatC (Jvm.Cond.and given_1 narrow_1) := by decide +kernel
theorem st_ne : ∀ i, i < 3 → ∀ j, j < 3 → i < j → Cond.not (Cond.eq (tmS i) (tmS j)) ∈ flatC (Jvm.Cond.and given_1 narrow_1) := by decide +kernel
theorem st_tb {i : Nat} {w : Cond} (h : tables_1[i]? = some w) : w ∈ lw_tbl := List.mem_append_right _ (List.mem_of_getElem? h)
theorem st_arr {ty : FieldType} (h : (Cond.arrayClass ty).before A s = true) : ∃ cA kA comp, s.vm.findClass ("[" ++ ty.toString) = some cA ∧ s.vm.classes[cA]? = some kA ∧ kA.kind = .array comp ty ∧ ArrOfT s cA ty := by
  obtain ⟨cA, kA, comp, h1, h2, h3⟩ := Cond.arrayClass_spec h
  exact ⟨cA, kA, comp, h1, h2, h3, fun n z => ⟨fun k h => (by cases h), kA, h2, comp, h3⟩⟩
theorem st_arrO {C : String} (h : (Cond.arrayOver (.object C)).before A s = true) : ∃ cA, ArrOfT s cA (.object C) ∧ va_RA s cA (.object C) := by
  obtain ⟨comp, cA, kA, h1, -, h2, h3, h4⟩ := Cond.arrayOver_spec h
  exact ⟨cA, fun n z => ⟨fun k h => (by cases h), kA, h2, comp, h3⟩, kA, comp, h2, h3, h1, h4⟩
theorem st_cx (hts : ∀ w ∈ lw_tbl, w.before #[Value.ref b] s = true) (hX : va_X b L xs s s.heap) (hbl : b < s.heap.size) (hgv : (Jvm.Cond.and given_1 narrow_1).before #[Value.ref b] s = true) : ∃ X : qX, qCx X s ∧ xB X = s.heap.size ∧ xH X = s.heap ∧ xS X 0 = b ∧ xL X = L ∧ xV X = xs := by
  have hs := flat_of_before _ hgv
  have hA : ∀ a : Nat, a < s.heap.size → ¬ (fun q : Nat => s.heap.size ≤ q) a := fun a h => Nat.not_le.mpr h
  have hq : ∀ w ∈ qTs, w.before #[Value.ref b] s = true := fun w hw => hts w (List.mem_filter.mp hw).1
  have hc0 : ∀ c : Nat, ∃ q : ClassId × (Nat → Nat), c < 11 → u_Kn s (qC3 c).1 (qC3 c).2.1 (qC3 c).2.2 q.1 q.2 := by
    intro c
    by_cases hc : c < 11
    · have hn : (qC3 c).1 = qOn c := by
        match c, hc with
        | 0, _ | 1, _ | 2, _ | 3, _ | 4, _ | 5, _ | 6, _ | 7, _ | 8, _ | 9, _ | 10, _ => rfl
      obtain ⟨cC, iS, h⟩ := u_known (C := (qC3 c).1) (T := (qC3 c).2.1) (N := (qC3 c).2.2) (n := (qC3 c).2.2) hq (qhin hc) (by
        rw [hn]
        exact hts _ (List.mem_of_getElem? (qIns_ok c hc).1))
      exact ⟨(cC, iS), fun _ => h⟩
    · exact ⟨(0, fun _ => 0), fun h => absurd h hc⟩
  obtain ⟨kn, hkn⟩ : ∃ kn : Nat → ClassId × (Nat → Nat), ∀ c : Nat, c < 11 → u_Kn s (qC3 c).1 (qC3 c).2.1 (qC3 c).2.2 (kn c).1 (kn c).2 := ⟨fun c => Classical.choose (hc0 c), fun c => Classical.choose_spec (hc0 c)⟩
  obtain ⟨ci, -, -, i1, -, -, i4⟩ := st_arr (hts (.arrayClass .int) (st_tb (i := 48) (by decide +kernel)))
  obtain ⟨cb, -, -, b1, -, -, b4⟩ := st_arr (hts (.arrayClass .byte) (st_tb (i := 961) (by decide +kernel)))
  obtain ⟨cl, -, -, l1, -, -, l4⟩ := st_arr (hts (.arrayClass .long) (st_tb (i := 1604) (by decide +kernel)))
  have o6 := hts (.arrayOver (.object RX6)) (st_tb (i := 133) (by decide +kernel))
  have o7 := hts (.arrayOver (.object RX7)) (st_tb (i := 231) (by decide +kernel))
  have o1 := hts (.arrayOver (.object RX1)) (st_tb (i := 243) (by decide +kernel))
  obtain ⟨c6, s1, s2⟩ := st_arrO o6
  obtain ⟨c7, t1, t2⟩ := st_arrO o7
  obtain ⟨c1, d1, d2⟩ := st_arrO o1
  obtain ⟨adK, adV, hS, hE⟩ := vk_Sof (args := #[Value.ref b]) (s := s) (N := 3) (tm := tmS) (len := qlens) (byt := qbyts) (A := fun q : Nat => s.heap.size ≤ q) (by decide) (fun i hi => hs _ (st_ex i hi)) (fun i hi => hs _ (st_co i hi)) (fun i hi => hs _ (st_ar i hi)) (fun i hi => hs _ (st_le i hi)) (fun i hi j hj => hs _ (st_el i hi j hj)) (fun i j hi hj hij => by
    rcases Nat.lt_or_gt_of_ne hij with h | h
    · exact Or.inl (hs _ (st_ne i hi j hj h))
    · exact Or.inr (hs _ (st_ne j hj i hi h))) hA
  refine ⟨((fun c => (kn c).1, fun c => (kn c).2), (fun k => if k = 100 then ci else if k = 101 then cb else if k = 102 then cl else if k = 103 then c6 else if k = 104 then c7 else c1), s.heap.size, (fun k => match k with | 0 => b | i + 1 => adK i), s.heap, L, xs), ⟨⟨fun c q hcq => ?_, fun k q hkq => ?_⟩, hX, ⟨hbl, rfl⟩, fun w hw => ?_, ⟨⟨adV, hS⟩, vk_R.of (hts _ (st_tb (i := 1109) (by decide +kernel))) (hE 0 (by omega)), vk_R.of (hts _ (st_tb (i := 1183) (by decide +kernel))) (hE 1 (by omega)), vk_R.of (hts _ (st_tb (i := 1208) (by decide +kernel))) (hE 2 (by omega)), ?_, ?_⟩, ⟨?_, ?_, ?_, fun a => ?_, fun x hx a => ?_⟩, va_AO.of o6, va_AO.of o7, va_AO.of o1⟩, rfl, rfl, rfl, rfl, rfl⟩
  · have hc : c < 11 := (List.getElem?_eq_some_iff.mp hcq).1
    rw [qC3_at hc] at hcq
    cases hcq
    exact hkn c hc
  · match k, hkq with
    | 0, hkq => cases hkq; exact ⟨i4, i1⟩
    | 1, hkq => cases hkq; exact ⟨b4, b1⟩
    | 2, hkq => cases hkq; exact ⟨l4, l1⟩
    | 3, hkq => cases hkq; exact ⟨s1, s2⟩
    | 4, hkq => cases hkq; exact ⟨t1, t2⟩
    | 5, hkq => cases hkq; exact ⟨d1, d2⟩
    | k + 6, hkq => cases hkq
  · obtain ⟨h1, h2⟩ := qNws_in w hw
    rcases h2 with ⟨a, i, d, n, t, rfl⟩ | ⟨a, i, y, rfl⟩
    · exact va_Nw.of rfl (hts _ h1)
    · exact va_Nw.of rfl (hts _ h1)
  · exact va_Zof (hts _ (st_tb (i := 1122) (by decide +kernel))) (hts _ (st_tb (i := 12) (by decide +kernel))) (va_eqt (hs (Cond.eq (.static "java/lang/String" "COMPACT_STRINGS" "Z") (.int 1)) (by decide +kernel))) hA
  · exact va_Zqof (hts _ (st_tb (i := 1138) (by decide +kernel))) (hts _ (st_tb (i := 14) (by decide +kernel))) (hs (Cond.isRef (.static "jdk/internal/util/Preconditions" "SIOOBE_FORMATTER" "Ljava/util/function/BiFunction;")) (by decide +kernel)) hA
  · obtain ⟨sa, -, -, -, q1, -⟩ := Cond.exactly_spec (args := #[Value.ref b]) (first := s) (o := none) (s := s) (idx := []) (t := .string RX9 155) (cls := "java/lang/String") (hs (Cond.exactly (.string RX9 155) "java/lang/String") (by decide +kernel))
    exact ⟨sa, vk_R.of (hts _ (st_tb (i := 935) (by decide +kernel))) q1⟩
  · exact vx_Zqof (hts _ (st_tb (i := 923) (by decide +kernel))) (hts _ (st_tb (i := 19) (by decide +kernel))) (hs (Cond.isRef (.static "java/lang/Throwable" "UNASSIGNED_STACK" "[Ljava/lang/StackTraceElement;")) (by decide +kernel)) hA
  · exact vx_Zqof (hts _ (st_tb (i := 925) (by decide +kernel))) (hts _ (st_tb (i := 19) (by decide +kernel))) (hs (Cond.isRef (.static "java/lang/Throwable" "SUPPRESSED_SENTINEL" "Ljava/util/List;")) (by decide +kernel)) hA
  · exact va_any rfl (hts (.castable "java/util/NoSuchElementException" "java/util/NoSuchElementException") (st_tb (i := 898) (by decide +kernel)))
  · have hx : x = ⟨"java/lang/RuntimeException", "<init>", "(Ljava/lang/String;)V"⟩ ∨ x = ⟨"java/lang/Exception", "<init>", "(Ljava/lang/String;)V"⟩ ∨ x = ⟨"java/lang/Throwable", "<init>", "(Ljava/lang/String;)V"⟩ := by
      rcases List.mem_cons.mp hx with h | h
      · exact Or.inl h
      · rcases List.mem_cons.mp h with h | h
        · exact Or.inr (Or.inl h)
        · exact Or.inr (Or.inr (List.mem_singleton.mp h))
    rcases hx with rfl | rfl | rfl
    · exact va_any rfl (hts _ (st_tb (i := 900) (by decide +kernel)))
    · exact va_any rfl (hts _ (st_tb (i := 902) (by decide +kernel)))
    · exact va_any rfl (hts _ (st_tb (i := 904) (by decide +kernel)))
theorem whole_start (l : Launch) (hflags : l.flags = flags0) (hL : L ≤ 3584) (C0 : lw_At p s m meth c b L xs) : W p l e room_1 s m #[Value.ref b] below meth c s.heap [] 0 0 (lw_Z below #[Value.ref b] s) (entryFrame m ([Value.ref b] : List Value).toArray 7) := by
  obtain ⟨hx, hb, hr, hml, hown, hts, hX, hbl, hlocks, hgv, hnm⟩ := C0
  obtain ⟨X, hcx, x1, x2, x3, x4, x5⟩ := st_cx hts hX hbl hgv
  have hl : l.stackTraces = false := by
    unfold Launch.stackTraces
    rw [hflags]
    decide +kernel
  have M : qMx p s m #[Value.ref b] meth c 270 X := ⟨hx, hb, hml, hown, fun w hw => hts w (List.mem_filter.mp hw).1, hcx, hnm⟩
  have hHp : qHp X (fun a => if a = 0 then some (110, L) else none, fun _ _ => none, 4, 0) (fun a j => if a = 0 then xs j else 0) (fun _ _ => 0) s.heap := by
    refine ⟨⟨Nat.le_refl _, by rw [x1]⟩, fun q _ => by rw [x2], fun a k n h => ?_⟩
    by_cases h0 : a = 0
    · subst h0
      cases h
      exact Or.inl ⟨rfl, rfl, x4.symm, fun j _ => by rw [x5]; rfl⟩
    · dsimp only at h
      rw [if_neg h0] at h
      cases h
  have G0 : gIn L (fun a j => if a = 0 then xs j else 0) 4 0 0 (fun a => if a = 0 then some (110, L) else none, fun _ _ => none, 4, 0) (fun a j => if a = 0 then xs j else 0) := ⟨rfl, rfl, rfl, fun a h1 h2 => by omega, fun a k _ => rfl, fun a h1 h2 => by omega, rfl⟩
  obtain ⟨n, v, g', I', J', hrun, rfl, hb1, hb2⟩ := law_run (J := fun _ _ => 0) hL G0
  have hbv : Value.ref b = qv X (.ref 0) := by
    show Value.ref b = Value.ref (qrho X 0)
    rw [show qrho X 0 = xS X 0 from if_pos (by omega), x3]
  have he : ([Value.ref b] : List Value) = [Value.ref 0].map (qv X) := by rw [hbv]; rfl
  have hkey : entryFrame m ([Value.ref b] : List Value).toArray 7 = entryFrame m (([Value.ref 0] : List Value).map (qv X)).toArray 7 := by rw [he]
  rw [hkey, lg_entry_eq]
  refine qWR_law hl mz_length mz_charAt n 91 0 (qent 270 [.ref 0]) [] _ _ _ _ g' I' J' hrun p e room_1 s m #[Value.ref b] below meth c s.heap [] 0 0 _ _ M ⟨Nat.le_of_ble_eq_true rfl, Nat.le_of_ble_eq_true rfl⟩ ?_ ?_ (qLs_entry X [.ref 0] 7 (Nat.le_of_ble_eq_true rfl)) hHp (fun z hz => (by cases hz)) ?_
  · show 0 + (g'.2.2.1 - 4) ≤ 601024
    omega
  · show 0 + (g'.2.2.2 - 0) ≤ 7293034
    omega
  · intro x pc2 lv2 st2 ls2 H2 locs2 hx2 hs2 hL2 hH2 hlo2
    have hd := qdec hx2
    have hk := qlinks hx2
    have hcs := qstep_rets hs2
    obtain ⟨i, len, a, b2, t⟩ := x
    dsimp only at hcs hd
    rcases hcs with ⟨y, rfl, rfl, hy, hty⟩ | ⟨y, rfl, rfl, hy⟩ | ⟨y, rfl, rfl, hy⟩ | ⟨rfl, rfl, hy⟩ | ⟨rfl, rfl, hy⟩ | ⟨ix, rfl, -, -, hy⟩
    · cases hy
      unfold qlk at hk
      dsimp only at hk
      simp only [Bool.and_eq_true] at hk
      obtain rfl := Nat.eq_of_beq_eq_true hk.1
      refine va_forget (fun z hz => by have := hlo2 z hz; omega) (W.widen (k := 601024) (n := 7293034) ?_ ?_ (lw_ret hx hb hr hlocks hd))
      · show 0 + (g'.2.2.1 - 4) ≤ 601024
        omega
      · show 0 + (g'.2.2.2 - 0) ≤ 7293034
        omega
    all_goals cases hy
end STARTS
