/-! runs of 269 and of the law -/
section QWH
variable {l : Launch} {X : qX}
def qWH (l : Launch) (X : qX) (n : Nat) : Prop := ∀ (d pc : Nat) (lv st : List Value) (g : qG) (I : qI) (J : qJ) (v : Option Value) (g' : qG) (I' : qI) (J' : qJ), qrun n d 269 (pc, lv, st, g, I, J) = some (v, g', I', J') → qthr v = false →
  ∀ (p : Program) (e : Env) (R : Room) (s : State) (mI : MethodId) (args : Array Value) (below : List Frame) (meth : Method) (c : Code) (H : Heap) (locs : List Loc) (cells slots : Nat) (ls : Array Slot),
    qMx p s mI args meth c 269 X → c.exceptionTable.toList = tableOf [(0, 10, 13, 13)] → meth.sig.returnType = (qYm 269).2.2.2 → meth.locks = false → d + 10 ≤ R.frames ∧ 64 * d + 200 ≤ R.locals → cells + (g'.2.2.1 - g.2.2.1) ≤ R.cells → slots + (g'.2.2.2 - g.2.2.2) ≤ R.slots → qLs X (qML 269) lv ls → qHp X g I J H → (∀ z ∈ locs, xB X ≤ z.base) →
    W p l e R s mI args below meth c H locs cells slots (MQ below (qQc X v g' I' J') args s (cells + (g'.2.2.1 - g.2.2.1)) (slots + (g'.2.2.2 - g.2.2.2)) (qAA X)) (F0 mI pc ls (st.map (qv X)))
theorem qWH_all (hl : l.stackTraces = false) (hSl : qSl l X) (hSc : qSc l X) : ∀ n, qWH l X n := by
  intro n
  induction n with
  | zero => intro d pc lv st g I J v g' I' J' h; cases h
  | succ n ih =>
    intro d pc lv st g I J v g' I' J' h hv p e R s mI args below meth c H locs cells slots ls M htab hrt hlk hR hc hsl hL hH hlo
    rw [qrun_s] at h
    cases hx : qP 269 pc with
    | none => rw [hx] at h; cases h
    | some x =>
      rw [hx] at h
      dsimp only at h
      cases hs : qstep x pc lv st g I J with
      | none => rw [hs] at h; cases h
      | some r =>
        rw [hs] at h
        obtain ⟨pc1, lv1, st1, g1, I1, J1⟩ | v1 | ⟨cc, as, pc', rest⟩ := r
        · dsimp only at h
          have z1 := qstep_mono hs
          have z2 := qrun_sz _ _ _ _ _ _ _ _ h
          dsimp only at z2
          refine qstep_snd M hSl hSc hx hs ⟨by omega, by omega⟩ (by omega) (by omega) hL hH hlo (fun ls1 H1 locs1 a1 a2 a3 => ?_)
          have z9 := ih d pc1 lv1 st1 g1 I1 J1 v g' I' J' h hv p e R s mI args below meth c H1 locs1 (cells + (g1.2.2.1 - g.2.2.1)) (slots + (g1.2.2.2 - g.2.2.2)) ls1 M htab hrt hlk hR (by omega) (by omega) a1 a2 a3
          rw [show cells + (g1.2.2.1 - g.2.2.1) + (g'.2.2.1 - g1.2.2.1) = cells + (g'.2.2.1 - g.2.2.1) by omega, show slots + (g1.2.2.2 - g.2.2.2) + (g'.2.2.2 - g1.2.2.2) = slots + (g'.2.2.2 - g.2.2.2) by omega] at z9
          exact z9
        · cases h
          simp only [Nat.sub_self, Nat.add_zero]
          exact qret_snd M hrt hlk hx hs hv hlo (fun t h9 hW9 => ⟨rfl, by rw [h9]; exact hH⟩)
        · dsimp only at h
          cases d with
          | zero => cases h
          | succ d' =>
            dsimp only at h
            cases hc2 : qrun n d' cc (0, qent cc as, [], g, I, J) with
            | none => rw [hc2] at h; cases h
            | some w =>
              rw [hc2] at h
              obtain ⟨v2, g2, I2, J2⟩ := w
              dsimp only at h
              have z1 := qrun_sz _ _ _ _ _ _ _ _ hc2
              dsimp only at z1
              obtain ⟨ha, hisc⟩ := qstep_call hs
              obtain ⟨hp5, hx5⟩ := q269 hx hisc
              have hcc : cc = 108 := by
                rw [hx5] at ha
                exact ha.symm
              cases ht : qthr v2 with
              | false =>
                rw [ht] at h
                dsimp only at h
                have z2 := qrun_sz _ _ _ _ _ _ _ _ h
                dsimp only at z2
                have hlt : cc < 269 := by omega
                refine qcall_snd M hx hs hlt (qmet (qWR_all hSl hSc n cc hlt) hlt hc2 ht (qstep_clen hs)) ⟨by omega, by omega⟩ ⟨by omega, by omega⟩ hL hH hlo (fun H1 locs1 a1 a2 => ?_)
                have z9 := ih (d' + 1) pc' lv (v2.toList ++ rest) g2 I2 J2 v g' I' J' h hv p e R s mI args below meth c H1 locs1 (cells + (g2.2.2.1 - g.2.2.1)) (slots + (g2.2.2.2 - g.2.2.2)) ls M htab hrt hlk hR (by omega) (by omega) hL a1 a2
                rw [show cells + (g2.2.2.1 - g.2.2.1) + (g'.2.2.1 - g2.2.2.1) = cells + (g'.2.2.1 - g.2.2.1) by omega, show slots + (g2.2.2.2 - g.2.2.2) + (g'.2.2.2 - g2.2.2.2) = slots + (g'.2.2.2 - g.2.2.2) by omega] at z9
                exact z9
              | true =>
                rw [ht] at h
                dsimp only at h
                have h : qrun n (d' + 1) 269 (13, lv, [.ref g2.2.2.1], qbp g2, I2, J2) = some (v, g', I', J') := h
                obtain ⟨rfl, rfl, rfl, rfl, lv1, hst⟩ := q269h h
                have zb1 : (qbp g2).2.2.1 = g2.2.2.1 + 1 := rfl
                have zb2 : (qbp g2).2.2.2 = g2.2.2.2 + 6 := rfl
                rw [zb1] at hc
                rw [zb2] at hsl
                refine qcatch M htab hl hSl hSc hx hs hc2 ht ⟨by omega, by omega⟩ ⟨by omega, by omega⟩ hL hH hlo (fun H1 locs1 q a1 a2 => ?_)
                obtain ⟨l9, g1, g2', g3⟩ := hL.st1 hst
                have p1 : qP 269 13 = some (.astore 4, 2, 0, 0, 0) := rfl
                have p2 : qP 269 15 = some (.iconst 1, 1, 0, 0, 0) := rfl
                have p3 : qP 269 16 = some (.ireturn, 1, 0, 0, 0) := rfl
                refine lv_astore M.1 M.2.1 (qdec p1) g1 g2' rfl (fun ls' h' => ?_)
                refine lv_iconst M.1 M.2.1 (qdec p2) rfl ?_
                rw [zb1, zb2, show g2.2.2.1 + 1 - g.2.2.1 = g2.2.2.1 - g.2.2.1 + 1 by omega, show g2.2.2.2 + 6 - g.2.2.2 = g2.2.2.2 - g.2.2.2 + 6 by omega]
                exact qret_snd (st := [.int 1]) (lv := lv1) (g := qbp g2) (I := I') (J := J') M hrt hlk p3 rfl rfl a2 (fun t h9 hW9 => ⟨rfl, by rw [h9]; exact a1⟩)
abbrev qWsH : List Cond := Cond.codeWith (qYm 269).1 (qYm 269).2.1 (qYm 269).2.2.1 (qYm 269).2.2.2 [(0, 10, 13, 13)] :: qTs
set_option maxRecDepth 100000 in
theorem qw_269 : Cond.codeWith (qYm 269).1 (qYm 269).2.1 (qYm 269).2.2.1 (qYm 269).2.2.2 [(0, 10, 13, 13)] ∈ qTs := qTs_mem (i := 1011) rfl rfl
theorem qmet269 (hl : l.stackTraces = false) (hSl : qSl l X) (hSc : qSc l X) {n d : Nat} {as : List Value} {g : qG} {I : qI} {J : qJ} {v : Option Value} {g' : qG} {I' : qI} {J' : qJ} (h : qrun n d 269 (0, qent 269 as, [], g, I, J) = some (v, g', I', J')) (ht : qthr v = false) (hq : (qlay as).length ≤ qML 269) :
    vx_Met l (qYm 269).1 qWsH (qRm d (g'.2.2.1 - g.2.2.1) (g'.2.2.2 - g.2.2.2)) (va_Pc (as.map (qv X)) (qPre X g I J)) (qQc X v g' I' J') (fun _ _ _ => False) (g'.2.2.1 - g.2.2.1) (g'.2.2.2 - g.2.2.2) (qAA X) := by
  obtain ⟨y1, y2, y3, y4, y5, y6⟩ := qYm_cls 269 (by omega)
  refine vx_ofWH (cc := (qYm 269).2.1) (maxL := (qYm 269).2.2.1) (ret := (qYm 269).2.2.2) (hh := [(0, 10, 13, 13)]) y2 rfl ?_
  intro p e s mI args below meth c s₁ B hml hv
  obtain ⟨rfl, hH, hcx⟩ := hv
  have hts := atoms_spec (ws := qWsH) B.pre
  have htab := vx_table (x := (qYm 269).1) B (hts _ List.mem_cons_self)
  have hown : s.vm.findClass (qYm 269).1.cls = some mI.cls := findClass_of_methodNamed B.named
  rw [y1] at hown
  have hnm : meth.name = (qYm 269).1.name := (name_of_methodNamed B.named B.method).1
  have M : qMx p s mI (as.map (qv X)).toArray meth c 269 X := ⟨B.exec, B.bytes, by rw [hml, y5], hown, fun w hw => hts w (List.mem_cons_of_mem _ hw), hcx, hnm⟩
  rw [lg_entry_eq, y5]
  have z := qWH_all hl hSl hSc n d 0 (qent 269 as) [] g I J v g' I' J' h ht p e (qRm d (g'.2.2.1 - g.2.2.1) (g'.2.2.2 - g.2.2.2)) s mI (as.map (qv X)).toArray below meth c s.heap [] 0 0 _ M htab B.returns B.notSynchronized ⟨Nat.le_refl _, Nat.le_refl _⟩ (by rw [Nat.zero_add]; exact Nat.le_refl _) (by rw [Nat.zero_add]; exact Nat.le_refl _) (qLs_entry X as (qML 269) hq) hH (fun z hz => by cases hz)
  rw [Nat.zero_add, Nat.zero_add] at z
  exact vx_ret z
end QWH
section QLW
variable {p : Program} {l : Launch} {e : Env} {R : Room} {s : State} {mI : MethodId} {args : Array Value} {below : List Frame} {meth : Method} {c : Code} {H : Heap} {locs : List Loc} {cells slots : Nat} {Qf : State → Prop} {X : qX} {m pc : Nat} {lv st : List Value} {g : qG} {I : qI} {J : qJ} {ls : Array Slot}
theorem qfinX {v2 : Option Value} {g2 : qG} {I2 : qI} {J2 : qJ} {mc ms pc' : Nat} {a : Array Value} {st0 rest : List Value} (hr : vx_Run p l e R s mI args below meth c H locs cells slots mc ms (F0 mI pc ls st0) (rest.map (qv X)) (qQc X v2 g2 I2 J2 a) (fun _ _ _ => False) (qAA X)) (hlo : ∀ z ∈ locs, xB X ≤ z.base) (hp : pc + 3 = pc')
    (k : ∀ H1 locs1, qHp X g2 I2 J2 H1 → (∀ z ∈ locs1, xB X ≤ z.base) → W p l e R s mI args below meth c H1 locs1 (cells + mc) (slots + ms) Qf (F0 mI pc' ls ((v2.toList ++ rest).map (qv X)))) : W p l e R s mI args below meth c H locs cells slots Qf (F0 mI pc ls st0) := by
  refine qfin (v2 := v2) (g2 := g2) (I2 := I2) (J2 := J2) (mc := mc) (ms := ms) (a := a) (rest := rest) ?_ hlo hp k
  intro T hT Y
  rcases hr T hT Y with ⟨v, st₀, t, T', L, h⟩ | ⟨q, st₀, t, T', L, E, ce, h0, Y', hLL, e1, e2, hf, -⟩
  · obtain ⟨h0, Y', hLL, e1, e2, hq, go⟩ := h
    exact ⟨v, st₀, t, T', L, h0, Y', hLL, e1, e2, hq, go⟩
  · exact hf.elim
theorem qcallL (M : qMx p s mI args meth c m X) {x : qE} {pc' d mc ms : Nat} {as rest : List Value} {v2 : Option Value} {g2 : qG} {I2 : qI} {J2 : qJ} (hx : qP m pc = some x) (hs : qstep x pc lv st g I J = some (.inr (.inr (269, as, pc', rest))))
    (hM : vx_Met l (qYm 269).1 qWsH (qRm d mc ms) (va_Pc (as.map (qv X)) (qPre X g I J)) (qQc X v2 g2 I2 J2) (fun _ _ _ => False) mc ms (qAA X))
    (hR : d + 1 + 10 ≤ R.frames ∧ 64 * (d + 1) + 200 ≤ R.locals) (hc : cells + mc ≤ R.cells ∧ slots + ms ≤ R.slots) (hL : qLs X (qML m) lv ls) (hH : qHp X g I J H) (hlo : ∀ z ∈ locs, xB X ≤ z.base)
    (k : ∀ H1 locs1, qHp X g2 I2 J2 H1 → (∀ z ∈ locs1, xB X ≤ z.base) → W p l e R s mI args below meth c H1 locs1 (cells + mc) (slots + ms) Qf (F0 mI pc' ls ((v2.toList ++ rest).map (qv X)))) : W p l e R s mI args below meth c H locs cells slots Qf (F0 mI pc ls (st.map (qv X))) := by
  obtain ⟨hx0, hb, hml, hown, hts, hcx, hnm⟩ := M
  have hd := qdec hx
  have hk := qlinks hx
  obtain ⟨ha, hisc⟩ := qstep_call hs
  obtain ⟨i, len, a, b, t⟩ := x
  dsimp only at ha hd
  subst ha
  obtain ⟨y1, y2, y3, y4, y5, y6⟩ := qYm_cls 269 (by omega)
  obtain ⟨w1, w2, w3, w4⟩ := qMt_words (m := 269) (by omega)
  have hnp := qNp_ok 269 (by omega)
  have hpn := qPn_lt (c := 269) (by omega)
  have hroom : (qRm d mc ms).frames + 1 ≤ R.frames ∧ 8 + ((qYm 269).2.2.1 + 11) + (qRm d mc ms).locals ≤ R.locals := by
    rw [y5]
    show d + 10 + 1 ≤ _ ∧ 8 + (qML 269 + 11) + (64 * d + 200) ≤ _
    omega
  have hS : CallFix p mI c (qYm m).2.1 (qML m) s args qTs (qOn (qOw m)) := ⟨hx0, hb, hml, hown, hts⟩
  have hst9 : (qMt 269).2.1 = 1 := rfl
  have nov : ∀ {ix : Nat}, i = .invokevirtual ix → False := by
    intro ix hi
    subst hi
    unfold qlk at hk
    dsimp only at hk
    simp only [Bool.and_eq_true] at hk
    obtain ⟨-, ht, hk⟩ := hk
    obtain rfl := Nat.eq_of_beq_eq_true ht
    obtain ⟨-, hn, hkd⟩ := qcall_c hk rfl
    rcases hkd with ⟨-, k1, -⟩ | ⟨h, -⟩ | ⟨h, -⟩
    · rw [hst9] at k1; cases k1
    · cases h
    · cases h
  have nos : ∀ {ix : Nat}, i = .invokespecial ix → False := by
    intro ix hi
    subst hi
    unfold qlk at hk
    dsimp only at hk
    simp only [Bool.and_eq_true] at hk
    obtain ⟨-, ht, hk⟩ := hk
    obtain rfl := Nat.eq_of_beq_eq_true ht
    obtain ⟨-, hn, hkd⟩ := qcall_c hk rfl
    rcases hkd with ⟨h, -⟩ | ⟨h, -⟩ | ⟨-, k1, -⟩
    · cases h
    · cases h
    · rw [hst9] at k1; cases k1
  have stat : ∀ {ix : Nat}, i = .invokestatic ix → W p l e R s mI args below meth c H locs cells slots Qf (F0 mI pc ls (st.map (qv X))) := by
    intro ix hi
    subst hi
    unfold qlk at hk
    dsimp only at hk
    simp only [Bool.and_eq_true] at hk
    obtain ⟨hl, ht, hk⟩ := hk
    obtain rfl := Nat.eq_of_beq_eq_true hl
    obtain rfl := Nat.eq_of_beq_eq_true ht
    obtain ⟨-, hn, hkd⟩ := qcall_c hk rfl
    rcases hkd with ⟨h, -⟩ | ⟨-, k1, k5⟩ | ⟨h, -⟩
    · cases h
    · have hs2 : qcl (.invokestatic ix, 3, 269, b, 1) (pc + 3) lv st g I J = some (.inr (.inr (269, as, pc', rest))) := hs
      rw [qcl_S rfl] at hs2
      clear hs
      split at hs2
      · rename_i ho
        simp only [Option.some.injEq, Sum.inr.injEq, Prod.mk.injEq, true_and] at hs2
        obtain ⟨ze1, ze2, ze3⟩ := hs2
        subst ze1
        subst ze2
        subst ze3
        have hst : st.map (qv X) = ((st.take b).reverse.map (qv X)).reverse ++ (st.drop b).map (qv X) := by
          have := congrArg (List.map (qv X)) (qrev_take st b _ rfl)
          rw [List.map_append, List.map_reverse] at this
          exact this
        have hlen : ((st.take b).reverse.map (qv X)).length = b := by
          simp only [List.length_map, List.length_reverse, List.length_take]
          omega
        have hpre : PreS s H (va_Pc ((st.take b).reverse.map (qv X)) (qPre X g I J)) ((st.take b).reverse.map (qv X)) := ⟨qPre_blind, fun U hU hW => ⟨rfl, qPre_at hcx hH U hU hW⟩⟩
        have hlk := (qLm_word k5).1 rfl
        rw [hpn] at hlk
        have hG : GoodIn qTs (va_wsS (qOn (qOw m)) ix (qYm 269).1 qWsH) := qGoodIn (fun w hw => by
          unfold va_wsS at hw
          simp only [List.mem_append, List.mem_cons, List.not_mem_nil, or_false] at hw
          rcases hw with (rfl | rfl | rfl) | rfl | hw
          all_goals first | exact hlk | exact w2 hst9 | exact w4 | exact qw_269 | exact hw)
        exact qfinX (vx_runSX (As := (st.take b).reverse.map (qv X)) (rest := (st.drop b).map (qv X)) (n := b) hS hM (vx_cwSW b hts hG rfl rfl rfl ⟨y3, y4, by rw [hnp, hn]⟩ hroom) hpre rfl hlen hL.size hst (lv_room (by rw [qfs_map]; exact ho.1)) hd hc) hlo rfl k
      · cases hs2
    · cases h
  unfold qisc at hisc
  dsimp only at hisc
  split at hisc
  · exact (nov rfl).elim
  · exact (nos rfl).elim
  · exact stat rfl
  · cases hisc
end QLW
theorem qcall_270 {m pc c pc' : Nat} {x : qE} {lv st as r : List Value} {g : qG} {I : qI} {J : qJ} (hx : qP m pc = some x) (h : qstep x pc lv st g I J = some (.inr (.inr (c, as, pc', r)))) : c < 270 := by
  obtain ⟨h1, h2⟩ := qstep_call h
  have hk := qlinks hx
  obtain ⟨i, len, a, b, t⟩ := x
  dsimp only at h1
  subst h1
  have hlt : a < 1000 := by
    unfold qisc at h2
    dsimp only at h2
    split at h2
    · exact Nat.lt_of_lt_of_le (Nat.lt_succ_self a) (Nat.le_of_ble_eq_true h2)
    · exact Nat.lt_of_lt_of_le (Nat.lt_succ_self a) (Nat.le_of_ble_eq_true h2)
    · exact Nat.lt_of_lt_of_le (Nat.lt_succ_self a) (Nat.le_of_ble_eq_true h2)
    · cases h2
  have hble : Nat.ble 1000 a = false := by
    cases hq : Nat.ble 1000 a with
    | false => rfl
    | true => have := Nat.le_of_ble_eq_true hq; omega
  unfold qisc at h2
  dsimp only at h2
  split at h2
  · unfold qlk at hk
    dsimp only at hk
    simp only [Bool.and_eq_true] at hk
    exact (qcall_c hk.2.2 hble).1
  · unfold qlk at hk
    dsimp only at hk
    simp only [Bool.and_eq_true] at hk
    exact (qcall_c hk.2.2 hble).1
  · unfold qlk at hk
    dsimp only at hk
    simp only [Bool.and_eq_true] at hk
    exact (qcall_c hk.2.2 hble).1
  · cases h2
theorem qWR_law {l : Launch} {X : qX} (hl : l.stackTraces = false) (hSl : qSl l X) (hSc : qSc l X) : ∀ n, qWR l X n 270 := by
  intro n
  induction n with
  | zero => intro d pc lv st g I J v g' I' J' h; cases h
  | succ n ih =>
    refine qWR_step hSl hSc (by omega) ih ?_
    intro d pc cc pc' x lv st as r g I J v2 g2 I2 J2 hx hs hc2 ht p e R s mI args below meth c H locs cells slots Qf ls M hR hc hL hH hlo k
    have hcc := qcall_270 hx hs
    by_cases h9 : cc = 269
    · subst h9
      exact qcallL M hx hs (qmet269 hl hSl hSc hc2 ht (qstep_clen hs)) hR hc hL hH hlo k
    · have hlt : cc < 269 := by omega
      exact qcall_snd M hx hs hlt (qmet (qWR_all hSl hSc n cc hlt) hlt hc2 ht (qstep_clen hs)) hR hc hL hH hlo k
