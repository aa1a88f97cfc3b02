/-! the method that catches (269) and the law's frame (270) -/
theorem q269a : ∀ pc, pc < 32 → (match qP 269 pc with | some x => bif qisc x then Nat.beq pc 5 else true | none => true) = true := by decide +kernel
theorem q269b {pc : Nat} (h : 32 ≤ pc) : qP 269 pc = none := by
  have e : pc / 16 = (pc / 16 - 2) + 2 := by omega
  unfold qP
  rw [e]
  rfl
theorem q269 {pc : Nat} {x : qE} (h : qP 269 pc = some x) (hc : qisc x = true) : pc = 5 ∧ x = (.invokevirtual 7, 3, 108, 2, 0) := by
  by_cases hp : pc < 32
  · have h1 := q269a pc hp
    rw [h] at h1
    dsimp only at h1
    rw [hc] at h1
    have h2 : pc = 5 := Nat.eq_of_beq_eq_true h1
    subst h2
    have h3 : qP 269 5 = some (.invokevirtual 7, 3, 108, 2, 0) := rfl
    rw [h3] at h
    exact ⟨rfl, (Option.some.inj h).symm⟩
  · rw [q269b (by omega)] at h
    cases h
section QCT
variable {p : Program} {l : Launch} {e : Env} {R : Room} {s : State} {mI : MethodId} {args : Array Value} {below : List Frame} {meth : Method} {c : Code} {H : Heap} {locs : List Loc} {cells slots : Nat} {Qf : State → Prop} {X : qX} {m pc : Nat} {lv st : List Value} {g : qG} {I : qI} {J : qJ} {ls : Array Slot}
theorem qcatch (M : qMx p s mI args meth c 269 X) (htab : c.exceptionTable.toList = tableOf [(0, 10, 13, 13)]) (hl : l.stackTraces = false) (hSl : qSl l X) (hSc : qSc l X) {n d cc pc' : Nat} {x : qE} {as rest : List Value} {v2 : Option Value} {g2 : qG} {I2 : qI} {J2 : qJ} (hx : qP 269 pc = some x) (hs : qstep x pc lv st g I J = some (.inr (.inr (cc, as, pc', rest))))
    (hrun : qrun n d cc (0, qent cc as, [], g, I, J) = some (v2, g2, I2, J2)) (ht : qthr v2 = true) (hR : d + 1 + 10 ≤ R.frames ∧ 64 * (d + 1) + 200 ≤ R.locals) (hc : cells + (g2.2.2.1 - g.2.2.1 + 1) ≤ R.cells ∧ slots + (g2.2.2.2 - g.2.2.2 + 6) ≤ R.slots) (hL : qLs X (qML 269) lv ls) (hH : qHp X g I J H) (hlo : ∀ z ∈ locs, xB X ≤ z.base)
    (k : ∀ H1 locs1 q, qHp X (qbp g2) I2 J2 H1 → (∀ z ∈ locs1, xB X ≤ z.base) → W p l e R s mI args below meth c H1 locs1 (cells + (g2.2.2.1 - g.2.2.1 + 1)) (slots + (g2.2.2.2 - g.2.2.2 + 6)) Qf (F0 mI 13 ls [.ref q])) : W p l e R s mI args below meth c H locs cells slots Qf (F0 mI pc ls (st.map (qv X))) := by
  obtain ⟨ha, hisc⟩ := qstep_call hs
  obtain ⟨rfl, rfl⟩ := q269 hx hisc
  dsimp only at ha
  subst ha
  have hd := qdec hx
  have hk := qlinks hx
  have hq := qstep_clen hs
  have hM := qthr_met hl hSl hSc hrun ht hq
  obtain ⟨hx0, hb, hml, hown, hts, hcx, hnm⟩ := M
  obtain ⟨y1, y2, y3, y4, y5, y6⟩ := qYm_cls 108 (by omega)
  obtain ⟨w1, w2, w3, w4⟩ := qMt_words (m := 108) (by omega)
  have hnp := qNp_ok 108 (by omega)
  have hcode : qcP 108 := qcode_269 108 (by omega)
  have hG : GoodIn qTs (qWs 108) := qGoodIn (fun w hw => (List.mem_cons.mp hw).elim (fun e => by rw [e]; exact hcode) id)
  have hpn := qPn_lt (c := 108) (by omega)
  have hroom : (qRm d (g2.2.2.1 - g.2.2.1 + 1) (g2.2.2.2 - g.2.2.2 + 6)).frames + 1 ≤ R.frames ∧ 8 + ((qYm 108).2.2.1 + 11) + (qRm d (g2.2.2.1 - g.2.2.1 + 1) (g2.2.2.2 - g.2.2.2 + 6)).locals ≤ R.locals := by
    rw [y5]
    show d + 10 + 1 ≤ _ ∧ 8 + (qML 108 + 11) + (64 * d + 200) ≤ _
    omega
  have hS : CallFix p mI c (qYm 269).2.1 (qML 269) s args qTs (qOn (qOw 269)) := ⟨hx0, hb, hml, hown, hts⟩
  unfold qlk at hk
  dsimp only at hk
  simp only [Bool.and_eq_true] at hk
  obtain ⟨-, -, hk⟩ := hk
  obtain ⟨-, hn, hkd⟩ := qcall_c hk rfl
  rcases hkd with ⟨-, k1, k2, k3, k4, k5⟩ | ⟨h, -⟩ | ⟨h, -⟩
  · have hs2 : qcl (.invokevirtual 7, 3, 108, 2, 0) (5 + 3) lv st g I J = some (.inr (.inr (108, as, pc', rest))) := hs
    rw [qcl_V rfl] at hs2
    clear hs
    split at hs2
    · rename_i zo zr hdr
      split at hs2
      · rename_i ho
        simp only [Option.some.injEq, Sum.inr.injEq, Prod.mk.injEq, true_and] at hs2
        obtain ⟨ze1, ze2, ze3⟩ := hs2
        subst ze1
        have ze4 := ze3.symm
        subst ze4
        have hst : st.map (qv X) = ((st.take 2).reverse.map (qv X)).reverse ++ .ref (qrho X zo) :: List.map (qv X) rest := by
          have := congrArg (List.map (qv X)) (qrev_take st 2 _ hdr)
          rw [List.map_append, List.map_cons, List.map_reverse] at this
          exact this
        have hlen : ((st.take 2).reverse.map (qv X)).length = 2 := by
          have : (st.drop 2).length = List.length rest + 1 := by rw [hdr]; rfl
          rw [List.length_drop] at this
          simp only [List.length_map, List.length_reverse, List.length_take]
          omega
        obtain ⟨n9, hkd9⟩ := qob_k ho.1
        obtain ⟨c1, c2, c3, c4⟩ := hH.cell hkd9 (by omega)
        rw [qce_o k4] at c4
        have recv := va_recv hcx.K (va_P1 c4) (qC3_at k4) (q0 := 0) rfl
        rw [qC3_name k4] at recv
        rw [← y1] at recv
        have hpre : PreV s H (qYm 108).1.cls (qrho X zo) (va_Pc ((.ref zo :: (st.take 2).reverse).map (qv X)) (qPre X g I J)) ((st.take 2).reverse.map (qv X)) := ⟨qPre_blind, recv, fun U hU hW => ⟨rfl, qPre_at hcx hH U hU hW⟩⟩
        rcases k5 with k5 | k5
        · have hlk := (qLm_word k5).1 rfl
          rw [hpn] at hlk
          have hr := vx_runV (meth := meth) (below := below) (e := e) (As := (st.take 2).reverse.map (qv X)) (rest := List.map (qv X) rest) (b := qrho X zo) (n := 2) (C := (qYm 108).1.cls) (locs := locs) (cells := cells) (slots := slots) (g := F0 mI 5 ls (st.map (qv X))) hS hM ⟨callB_of 2 hts hG rfl rfl rfl (hts _ w4) (hts _ hlk) ⟨y3, y4, by rw [hnp, hn]⟩ hroom, hts _ (w1 k2 k1), hts _ (w3 k3)⟩ hpre rfl hlen hL.size hst (lv_room (by rw [qfs_map]; exact ho.2.1)) hd hc
          intro T hT Y
          rcases hr T hT Y with ⟨v, st₀, t, T', L, h0, Y', hLL, e1, e2, q1, st9⟩ | ⟨q, st₀, t, T', L, E, ce, h0, Y', hLL, e1, e2, ⟨rfl, hh⟩, hce, hcv, hcl, st9⟩
          · exact q1.elim
          · have k := k T'.heap (locs ++ L) q (by rw [e1]; exact hh) (fun z hz => by
              rcases List.mem_append.mp hz with h | h
              · exact hlo z h
              · exact hLL z h)
            have kw := vx_catch (p := p) (l := l) (e := e) (R := R) (below := below) (meth := meth) (c := c) (H := T'.heap) (locs := locs ++ L) (pc := 5) (ls := ls) (rest := List.map (qv X) rest) (own := qOn (qOw 269)) (name := qNse) (E := qNse) (ce := ce) (q := q) hown [] ⟨0, 10, 13, 13⟩ [] htab (fun z hz => by cases hz) (by decide) (by decide) (hts _ qw_kL) (hcx.2.2.2.2.2.1.2.2.2.1 _) (by rw [e1]; exact hce) hcv hcl k
            obtain ⟨t2, a1, b1⟩ := kw T' rfl Y'
            exact ⟨t2, st9.trans a1, b1⟩
        · exact absurd k5 (by decide +kernel)
      · cases hs2
    · cases hs2
  · cases h
  · cases h
/-- what is left behind the catch -/
theorem q269h {n d : Nat} {v : Option Value} {g' : qG} {I' : qI} {J' : qJ} {w : Value} (h : qrun n d 269 (13, lv, [w], g, I, J) = some (v, g', I', J')) : v = some (.int 1) ∧ g' = g ∧ I' = I ∧ J' = J ∧ ∃ lv1, qst1 lv 4 w = some lv1 := by
  have p1 : qP 269 13 = some (.astore 4, 2, 0, 0, 0) := rfl
  have p2 : qP 269 15 = some (.iconst 1, 1, 0, 0, 0) := rfl
  have p3 : qP 269 16 = some (.ireturn, 1, 0, 0, 0) := rfl
  cases n with
  | zero => cases h
  | succ n =>
    rw [qrun_s, p1] at h
    dsimp only at h
    have hq : ∃ lv1, qst1 lv 4 w = some lv1 ∧ qstep (.astore 4, 2, 0, 0, 0) 13 lv [w] g I J = some (.inl (15, lv1, [], g, I, J)) := by
      cases w with
      | ref q =>
        have e : qstep (.astore 4, 2, 0, 0, 0) 13 lv [.ref q] g I J = (qst1 lv 4 (.ref q)).bind (fun l1 => qnx 15 l1 [] g I J) := rfl
        rw [e] at h
        cases hv : qst1 lv 4 (.ref q) with
        | none => rw [hv] at h; cases h
        | some l1 => exact ⟨l1, rfl, by rw [e, hv]; rfl⟩
      | null =>
        have e : qstep (.astore 4, 2, 0, 0, 0) 13 lv [.null] g I J = (qst1 lv 4 .null).bind (fun l1 => qnx 15 l1 [] g I J) := rfl
        rw [e] at h
        cases hv : qst1 lv 4 .null with
        | none => rw [hv] at h; cases h
        | some l1 => exact ⟨l1, rfl, by rw [e, hv]; rfl⟩
      | _ => cases h
    obtain ⟨lv1, hv, e1⟩ := hq
    rw [e1] at h
    dsimp only at h
    cases n with
    | zero => cases h
    | succ n =>
      rw [qrun_s, p2] at h
      have e2 : qstep (.iconst 1, 1, 0, 0, 0) 15 lv1 [] g I J = some (.inl (16, lv1, [.int 1], g, I, J)) := rfl
      dsimp only at h
      rw [e2] at h
      dsimp only at h
      cases n with
      | zero => cases h
      | succ n =>
        rw [qrun_s, p3] at h
        have e3 : qstep (.ireturn, 1, 0, 0, 0) 16 lv1 [.int 1] g I J = some (.inr (.inl (some (.int 1)))) := rfl
        dsimp only at h
        rw [e3] at h
        cases h
        exact ⟨rfl, rfl, rfl, rfl, lv1, hv⟩
end QCT
