/-! calls: a callee's run gives its contract; the caller goes on -/
set_option maxHeartbeats 4000000 in
theorem qstep_mono {x : qE} {pc : Nat} {ls st : List Value} {g : qG} {I : qI} {J : qJ} {pc' : Nat} {ls' st' : List Value} {g' : qG} {I' : qI} {J' : qJ} (h : qstep x pc ls st g I J = some (.inl (pc', ls', st', g', I', J'))) : g.2.2.1 ≤ g'.2.2.1 ∧ g.2.2.2 ≤ g'.2.2.2 := by
  obtain ⟨i, len, a, b, t⟩ := x
  unfold qstep at h
  dsimp only at h
  split at h
  all_goals (try unfold qcl at h)
  all_goals (try unfold qpr at h)
  all_goals (try unfold qpf at h)
  all_goals (try dsimp only at h)
  all_goals (repeat' (first | split at h | (simp only [Option.bind_eq_some_iff, Option.some.injEq, Sum.inl.injEq, Prod.mk.injEq, reduceCtorEq, cond_eq_ite] at h)))
  all_goals (try (obtain ⟨-, -, -, rfl, rfl, rfl⟩ := h; exact ⟨Nat.le_refl _, Nat.le_refl _⟩))
  all_goals (try (obtain ⟨-, -, -, -, -, rfl, rfl, rfl⟩ := h; exact ⟨Nat.le_refl _, Nat.le_refl _⟩))
  all_goals (try (obtain ⟨-, -, -, rfl, rfl, rfl⟩ := h; exact ⟨Nat.le_succ _, Nat.le_add_right _ _⟩))
theorem qrun_sz : ∀ (n d m : Nat) (f : qF) (v : Option Value) (g' : qG) (I' : qI) (J' : qJ), qrun n d m f = some (v, g', I', J') → f.2.2.2.1.2.2.1 ≤ g'.2.2.1 ∧ f.2.2.2.1.2.2.2 ≤ g'.2.2.2 := by
  intro n
  induction n with
  | zero => intro d m f v g' I' J' h; cases h
  | succ n ih =>
    intro d m f v g' I' J' h
    obtain ⟨pc, ls, st, g, I, J⟩ := f
    rw [qrun_s] at h
    cases hx : qP m pc with
    | none => rw [hx] at h; cases h
    | some x =>
      rw [hx] at h
      dsimp only at h ⊢
      cases hs : qstep x pc ls st g I J with
      | none => rw [hs] at h; cases h
      | some r =>
        rw [hs] at h
        obtain ⟨pc1, ls1, st1, g1, I1, J1⟩ | v1 | ⟨c, as, pc', rest⟩ := r
        · have h1 := qstep_mono hs
          have h2 := ih _ _ _ _ _ _ _ h
          dsimp only at h2
          omega
        · cases h
          exact ⟨Nat.le_refl _, Nat.le_refl _⟩
        · dsimp only at h
          cases d with
          | zero => cases h
          | succ d' =>
            dsimp only at h
            cases hc : qrun n d' c (0, qent c as, [], g, I, J) with
            | none => rw [hc] at h; cases h
            | some w =>
              rw [hc] at h
              obtain ⟨v2, g2, I2, J2⟩ := w
              have j1 := ih _ _ _ _ _ _ _ hc
              dsimp only at h j1
              cases ht : qthr v2 with
              | false =>
                rw [ht] at h
                have h2 := ih _ _ _ _ _ _ _ h
                dsimp only at h2
                omega
              | true =>
                rw [ht] at h
                dsimp only at h
                cases hb : Nat.beq m 269 with
                | false => rw [hb] at h; cases h
                | true =>
                  rw [hb] at h
                  have h2 := ih _ _ _ _ _ _ _ h
                  dsimp only at h2
                  omega
section QCLL
variable {p : Program} {l : Launch} {e : Env} {R : Room} {s : State} {mI : MethodId} {args : Array Value} {below : List Frame} {meth : Method} {c : Code} {H : Heap} {locs : List Loc} {cells slots : Nat} {Qf : State → Prop} {X : qX} {m pc : Nat} {lv st : List Value} {g : qG} {I : qI} {J : qJ} {ls : Array Slot}
def qPre (X : qX) (g : qG) (I : qI) (J : qJ) (U : State) : Prop := qHp X g I J U.heap ∧ qCx X U
def qQc (X : qX) (v : Option Value) (g : qG) (I : qI) (J : qJ) : Array Value → State → Outcome → State → Prop := fun _ _ oc t => oc = .returned (v.map (qv X)) ∧ qHp X g I J t.heap
abbrev qRm (d mc ms : Nat) : Room := { frames := d + 10, cells := mc, slots := ms, locals := 64 * d + 200 }
abbrev qWs (m : Nat) : List Cond := Cond.code (qYm m).1 (qYm m).2.1 (qYm m).2.2.1 (qYm m).2.2.2 :: qTs
theorem qPre_blind {as : List Value} : FrameBlind (va_Pc as (qPre X g I J)) := by
  intro a U g9 mk h
  exact ⟨h.1, h.2.1, qCx.same (s := U) (U := U.calling g9 mk a) rfl h.2.2⟩
theorem qPre_at (hcx : qCx X s) (hH : qHp X g I J H) : ∀ U : State, U.heap = H → s.WarmedH U.vm → qPre X g I J U := by
  intro U hU hW
  exact ⟨by rw [hU]; exact hH, hcx.warm hW⟩
/-- behind a call -/
theorem qfin {v2 : Option Value} {g2 : qG} {I2 : qI} {J2 : qJ} {mc ms pc' : Nat} {a : Array Value} {st0 rest : List Value} (hr : va_Run p l e R s mI args below meth c H locs cells slots mc ms (F0 mI pc ls st0) (rest.map (qv X)) (qQc X v2 g2 I2 J2 a) (qAA X)) (hlo : ∀ z ∈ locs, xB X ≤ z.base) (hp : pc + 3 = pc')
    (k : ∀ H1 locs1, qHp X g2 I2 J2 H1 → (∀ z ∈ locs1, xB X ≤ z.base) → W p l e R s mI args below meth c H1 locs1 (cells + mc) (slots + ms) Qf (F0 mI pc' ls ((v2.toList ++ rest).map (qv X)))) : W p l e R s mI args below meth c H locs cells slots Qf (F0 mI pc ls st0) := by
  subst hp
  intro T hT Y
  obtain ⟨v, st₀, t9, T', L, h0, Y', hLL, e1, e2, ⟨q1, q2⟩, go⟩ := hr T hT Y
  cases q1
  have k := k T'.heap (locs ++ L) (by rw [e1]; exact q2) (fun z hz => by
    rcases List.mem_append.mp hz with h | h
    · exact hlo z h
    · exact hLL z h)
  obtain ⟨t2, a1, b1⟩ := k T' rfl Y'
  refine ⟨t2, go t2 ?_, b1⟩
  have he : (v2.toList ++ rest).map (qv X) = (Option.map (qv X) v2).toList ++ rest.map (qv X) := by
    cases v2 <;> simp
  rw [he] at a1
  exact a1
theorem qcall_c {own ix c n t : Nat} {sp : Bool} (h : qcall own ix c n t sp = true) (hc : Nat.ble 1000 c = false) : c < 270 ∧ n = qNp c ∧ ((t = 0 ∧ (qMt c).2.1 = 0 ∧ ¬ (qMt c).2.2.1 = 9999 ∧ ¬ (qMt c).2.2.2.1 = 9999 ∧ qOw c < 11 ∧ (qLm own ix c 0 = true ∨ qLm own ix c 1 = true)) ∨ (t = 1 ∧ (qMt c).2.1 = 1 ∧ qLm own ix c 0 = true) ∨ (t = 2 ∧ (qMt c).2.1 = 0 ∧ ¬ (qMt c).2.2.1 = 9999 ∧ qOw c < 11 ∧ (qYm c).1.name = "<init>" ∧ qRt c = 9 ∧ (qLm own ix c 0 = true ∨ qLm own ix c 1 = true))) := by
  unfold qcall at h
  rw [hc] at h
  dsimp only at h
  simp only [Bool.and_eq_true] at h
  obtain ⟨h1, h2, h3⟩ := h
  refine ⟨Nat.lt_of_lt_of_le (Nat.lt_succ_self c) (Nat.le_of_ble_eq_true h1), Nat.eq_of_beq_eq_true h2, ?_⟩
  split at h3
  · simp only [Bool.and_eq_true, Bool.not_eq_true', Bool.or_eq_true] at h3
    obtain ⟨-, a1, a2, a3, a4, a5⟩ := h3
    exact Or.inl ⟨rfl, Nat.eq_of_beq_eq_true a1, (fun h => by rw [h] at a2; cases a2), (fun h => by rw [h] at a3; cases a3), Nat.lt_of_lt_of_le (Nat.lt_succ_self _) (Nat.le_of_ble_eq_true a4), a5⟩
  · simp only [Bool.and_eq_true] at h3
    exact Or.inr (Or.inl ⟨rfl, Nat.eq_of_beq_eq_true h3.2.1, h3.2.2⟩)
  · simp only [Bool.and_eq_true, Bool.not_eq_true', Bool.or_eq_true, decide_eq_true_eq] at h3
    obtain ⟨-, a1, a2, a3, a4, a5, a6⟩ := h3
    exact Or.inr (Or.inr ⟨rfl, Nat.eq_of_beq_eq_true a1, (fun h => by rw [h] at a2; cases a2), Nat.lt_of_lt_of_le (Nat.lt_succ_self _) (Nat.le_of_ble_eq_true a3), a4, Nat.eq_of_beq_eq_true a5, a6⟩)
  · cases h3
theorem qRt_none {m : Nat} (h : qRt m = 9) : (qYm m).2.2.2 = none := by
  unfold qRt at h
  split at h
  · assumption
  all_goals cases h
theorem qPn_lt {c : Nat} (h : c < 1000) : qPn c = (qYm c).1 := by
  unfold qPn
  split <;> first | omega | rfl
theorem qrev_take (st : List Value) (n : Nat) (r : List Value) (h : st.drop n = r) : st = (st.take n).reverse.reverse ++ r := by
  rw [List.reverse_reverse, ← h, List.take_append_drop]
theorem qcl_V {i : Instr} {len a b n : Nat} (h : Nat.ble 1000 a = false) : qcl (i, len, a, b, 0) n lv st g I J = (match st.drop b with
      | .ref o :: r => if qob g o (qOw a) = true ∧ qfs r ≤ 8 ∧ (qlay (.ref o :: (st.take b).reverse)).length ≤ qML a then some (.inr (.inr (a, .ref o :: (st.take b).reverse, n, r))) else none
      | _ => none) := by
  show (bif Nat.ble 1000 a then _ else _) = _
  rw [h]
  rfl
theorem qcl_I {i : Instr} {len a b n : Nat} (h : Nat.ble 1000 a = false) : qcl (i, len, a, b, 2) n lv st g I J = (match st.drop b with
      | .ref o :: r => if qob g o (qOw a) = true ∧ qfs r ≤ 8 ∧ (qlay (.ref o :: (st.take b).reverse)).length ≤ qML a then some (.inr (.inr (a, .ref o :: (st.take b).reverse, n, r))) else none
      | _ => none) := by
  show (bif Nat.ble 1000 a then _ else _) = _
  rw [h]
  rfl
theorem qcl_S {i : Instr} {len a b n : Nat} (h : Nat.ble 1000 a = false) : qcl (i, len, a, b, 1) n lv st g I J = (if qfs (st.drop b) ≤ 8 ∧ b ≤ st.length ∧ (qlay (st.take b).reverse).length ≤ qML a then some (.inr (.inr (a, (st.take b).reverse, n, st.drop b))) else none) := by
  show (bif Nat.ble 1000 a then _ else _) = _
  rw [h]
  rfl
theorem qcall_snd (M : qMx p s mI args meth c m X) {x : qE} {cc pc' d mc ms : Nat} {as rest : List Value} {v2 : Option Value} {g2 : qG} {I2 : qI} {J2 : qJ} (hx : qP m pc = some x) (hs : qstep x pc lv st g I J = some (.inr (.inr (cc, as, pc', rest)))) (hcc : cc < 269)
    (hM : Met l (qYm cc).1 (qWs cc) (qRm d mc ms) (va_Pc (as.map (qv X)) (qPre X g I J)) (qQc X v2 g2 I2 J2) mc ms (qAA X))
    (hR : d + 1 + 10 ≤ R.frames ∧ 64 * (d + 1) + 200 ≤ R.locals) (hc : cells + mc ≤ R.cells ∧ slots + ms ≤ R.slots) (hL : qLs X (qML m) lv ls) (hH : qHp X g I J H) (hlo : ∀ z ∈ locs, xB X ≤ z.base)
    (k : ∀ H1 locs1, qHp X g2 I2 J2 H1 → (∀ z ∈ locs1, xB X ≤ z.base) → W p l e R s mI args below meth c H1 locs1 (cells + mc) (slots + ms) Qf (F0 mI pc' ls ((v2.toList ++ rest).map (qv X)))) : W p l e R s mI args below meth c H locs cells slots Qf (F0 mI pc ls (st.map (qv X))) := by
  obtain ⟨hx0, hb, hml, hown, hts, hcx, hnm⟩ := M
  have hd := qdec hx
  have hk := qlinks hx
  obtain ⟨ha, hisc⟩ := qstep_call hs
  obtain ⟨i, len, a, b, t⟩ := x
  dsimp only at ha hd
  subst ha
  have hble : Nat.ble 1000 a = false := by
    cases hq : Nat.ble 1000 a with
    | false => rfl
    | true => have := Nat.le_of_ble_eq_true hq; omega
  obtain ⟨y1, y2, y3, y4, y5, y6⟩ := qYm_cls a (by omega)
  obtain ⟨w1, w2, w3, w4⟩ := qMt_words (m := a) (by omega)
  have hnp := qNp_ok a (by omega)
  have hcode : qcP a := qcode_269 a hcc
  have hG : GoodIn qTs (qWs a) := qGoodIn (fun w hw => (List.mem_cons.mp hw).elim (fun e => by rw [e]; exact hcode) id)
  have hpn := qPn_lt (c := a) (by omega)
  have hroom : (qRm d mc ms).frames + 1 ≤ R.frames ∧ 8 + ((qYm a).2.2.1 + 11) + (qRm d mc ms).locals ≤ R.locals := by
    rw [y5]
    show d + 10 + 1 ≤ _ ∧ 8 + (qML a + 11) + (64 * d + 200) ≤ _
    omega
  have hS : CallFix p mI c (qYm m).2.1 (qML m) s args qTs (qOn (qOw m)) := ⟨hx0, hb, hml, hown, hts⟩
  -- the three kinds of call
  have virt : ∀ {ix : Nat}, i = .invokevirtual ix → W p l e R s mI args below meth c H locs cells slots Qf (F0 mI pc ls (st.map (qv X))) := by
    intro ix hi
    subst hi
    unfold qlk at hk
    dsimp only at hk
    simp only [Bool.and_eq_true] at hk
    obtain ⟨hl, ht, hk⟩ := hk
    obtain rfl := Nat.eq_of_beq_eq_true hl
    obtain rfl := Nat.eq_of_beq_eq_true ht
    obtain ⟨-, hn, hkd⟩ := qcall_c hk hble
    rcases hkd with ⟨-, k1, k2, k3, k4, k5⟩ | ⟨h, -⟩ | ⟨h, -⟩
    · have hs2 : qcl (.invokevirtual ix, 3, a, b, 0) (pc + 3) lv st g I J = some (.inr (.inr (a, as, pc', rest))) := hs
      rw [qcl_V hble] at hs2
      clear hs
      split at hs2
      · rename_i zo zr hdr
        split at hs2
        · rename_i ho
          simp only [Option.some.injEq, Sum.inr.injEq, Prod.mk.injEq, true_and] at hs2
          obtain ⟨ze1, ze2, ze3⟩ := hs2
          subst ze1
          subst ze2
          have ze4 := ze3.symm
          subst ze4
          have hst : st.map (qv X) = ((st.take b).reverse.map (qv X)).reverse ++ .ref (qrho X zo) :: List.map (qv X) rest := by
            have := congrArg (List.map (qv X)) (qrev_take st b _ hdr)
            rw [List.map_append, List.map_cons, List.map_reverse] at this
            exact this
          have hlen : ((st.take b).reverse.map (qv X)).length = b := by
            have : (st.drop b).length = List.length rest + 1 := by rw [hdr]; rfl
            rw [List.length_drop] at this
            simp only [List.length_map, List.length_reverse, List.length_take]
            omega
          obtain ⟨n9, hkd9⟩ := qob_k ho.1
          obtain ⟨c1, c2, c3, c4⟩ := hH.cell hkd9 (by omega)
          rw [qce_o k4] at c4
          have recv := va_recv hcx.K (va_P1 c4) (qC3_at k4) (q0 := 0) rfl
          rw [qC3_name k4] at recv
          rw [← y1] at recv
          have hpre : PreV s H (qYm a).1.cls (qrho X zo) (va_Pc ((.ref zo :: (st.take b).reverse).map (qv X)) (qPre X g I J)) ((st.take b).reverse.map (qv X)) := ⟨qPre_blind, recv, fun U hU hW => ⟨rfl, qPre_at hcx hH U hU hW⟩⟩
          rcases k5 with k5 | k5
          · have hlk := (qLm_word k5).1 rfl
            rw [hpn] at hlk
            refine qfin (va_runV (As := (st.take b).reverse.map (qv X)) (rest := List.map (qv X) rest) (b := qrho X zo) (n := b) (C := (qYm a).1.cls) hS hM ⟨callB_of b hts hG rfl rfl rfl (hts _ w4) (hts _ hlk) ⟨y3, y4, by rw [hnp, hn]⟩ hroom, hts _ (w1 k2 k1), hts _ (w3 k3)⟩ hpre rfl hlen hL.size hst (lv_room (by rw [qfs_map]; exact ho.2.1)) hd hc) hlo rfl k
          · have hlk := (qLm_word k5).2 rfl
            rw [hpn] at hlk
            refine qfin (va_runVN (As := (st.take b).reverse.map (qv X)) (rest := List.map (qv X) rest) (b := qrho X zo) (n := b) (C := (qYm a).1.cls) hS hM ⟨va_cnB b hts hG rfl rfl rfl (hcx.2.2.2.1 _ hlk) (hts _ w4) ⟨y3, y4, by rw [hnp, hn]⟩ hroom, hts _ (w1 k2 k1), hts _ (w3 k3)⟩ hpre rfl hlen hL.size hst (lv_room (by rw [qfs_map]; exact ho.2.1)) hd hc) hlo rfl k
        · cases hs2
      · cases hs2
    · cases h
    · cases h
  have spec : ∀ {ix : Nat}, i = .invokespecial ix → W p l e R s mI args below meth c H locs cells slots Qf (F0 mI pc ls (st.map (qv X))) := by
    intro ix hi
    subst hi
    unfold qlk at hk
    dsimp only at hk
    simp only [Bool.and_eq_true] at hk
    obtain ⟨hl, ht, hk⟩ := hk
    obtain rfl := Nat.eq_of_beq_eq_true hl
    obtain rfl := Nat.eq_of_beq_eq_true ht
    obtain ⟨-, hn, hkd⟩ := qcall_c hk hble
    rcases hkd with ⟨h, -⟩ | ⟨h, -⟩ | ⟨-, k1, k2, k4, k6, k7, k5⟩
    · cases h
    · cases h
    · have hs2 : qcl (.invokespecial ix, 3, a, b, 2) (pc + 3) lv st g I J = some (.inr (.inr (a, as, pc', rest))) := hs
      rw [qcl_I hble] at hs2
      clear hs
      split at hs2
      · rename_i zo zr hdr
        split at hs2
        · rename_i ho
          simp only [Option.some.injEq, Sum.inr.injEq, Prod.mk.injEq, true_and] at hs2
          obtain ⟨ze1, ze2, ze3⟩ := hs2
          subst ze1
          subst ze2
          have ze4 := ze3.symm
          subst ze4
          have hst : st.map (qv X) = ((st.take b).reverse.map (qv X)).reverse ++ .ref (qrho X zo) :: List.map (qv X) rest := by
            have := congrArg (List.map (qv X)) (qrev_take st b _ hdr)
            rw [List.map_append, List.map_cons, List.map_reverse] at this
            exact this
          have hlen : ((st.take b).reverse.map (qv X)).length = b := by
            have : (st.drop b).length = List.length rest + 1 := by rw [hdr]; rfl
            rw [List.length_drop] at this
            simp only [List.length_map, List.length_reverse, List.length_take]
            omega
          have hpre : PreS s H (va_Pc ((.ref zo :: (st.take b).reverse).map (qv X)) (qPre X g I J)) (.ref (qrho X zo) :: (st.take b).reverse.map (qv X)) := ⟨qPre_blind, fun U hU hW => ⟨rfl, qPre_at hcx hH U hU hW⟩⟩
          have hrt := qRt_none k7
          have hG2 : GoodIn qTs (Cond.code (qYm a).1 (qYm a).2.1 (qYm a).2.2.1 none :: qTs) := by rw [← hrt]; exact hG
          have hM2 : Met l (qYm a).1 (Cond.code (qYm a).1 (qYm a).2.1 (qYm a).2.2.1 none :: qTs) (qRm d mc ms) (va_Pc ((.ref zo :: (st.take b).reverse).map (qv X)) (qPre X g I J)) (qQc X v2 g2 I2 J2) mc ms (qAA X) := by rw [← hrt]; exact hM
          rcases k5 with k5 | k5
          · have hlk := (qLm_word k5).1 rfl
            rw [hpn] at hlk
            refine qfin (va_runI (As := (st.take b).reverse.map (qv X)) (rest := List.map (qv X) rest) (b := qrho X zo) (n := b) hS hM2 ⟨callB_of b hts hG2 rfl rfl rfl (hts _ w4) (hts _ hlk) ⟨y3, y4, by rw [hnp, hn]⟩ hroom, k6, hts _ (w1 k2 k1)⟩ hpre rfl hlen hL.size hst (lv_room (by rw [qfs_map]; exact ho.2.1)) hd hc) hlo rfl k
          · have hlk := (qLm_word k5).2 rfl
            rw [hpn] at hlk
            refine qfin (va_runIN (As := (st.take b).reverse.map (qv X)) (rest := List.map (qv X) rest) (b := qrho X zo) (n := b) hS hM2 ⟨va_cnB b hts hG2 rfl rfl rfl (hcx.2.2.2.1 _ hlk) (hts _ w4) ⟨y3, y4, by rw [hnp, hn]⟩ hroom, k6, hts _ (w1 k2 k1)⟩ hpre rfl hlen hL.size hst (lv_room (by rw [qfs_map]; exact ho.2.1)) hd hc) hlo rfl k
        · cases hs2
      · cases hs2
  have stat : ∀ {ix : Nat}, i = .invokestatic ix → W p l e R s mI args below meth c H locs cells slots Qf (F0 mI pc ls (st.map (qv X))) := by
    intro ix hi
    subst hi
    unfold qlk at hk
    dsimp only at hk
    simp only [Bool.and_eq_true] at hk
    obtain ⟨hl, ht, hk⟩ := hk
    obtain rfl := Nat.eq_of_beq_eq_true hl
    obtain rfl := Nat.eq_of_beq_eq_true ht
    obtain ⟨-, hn, hkd⟩ := qcall_c hk hble
    rcases hkd with ⟨h, -⟩ | ⟨-, k1, k5⟩ | ⟨h, -⟩
    · cases h
    · have hs2 : qcl (.invokestatic ix, 3, a, b, 1) (pc + 3) lv st g I J = some (.inr (.inr (a, as, pc', rest))) := hs
      rw [qcl_S hble] at hs2
      clear hs
      split at hs2
      · rename_i ho
        simp only [Option.some.injEq, Sum.inr.injEq, Prod.mk.injEq, true_and] at hs2
        obtain ⟨ze1, ze2, ze3⟩ := hs2
        subst ze1
        subst ze2
        subst ze3
        have hst : st.map (qv X) = ((st.take b).reverse.map (qv X)).reverse ++ (st.drop b).map (qv X) := by
          have := congrArg (List.map (qv X)) (qrev_take st b _ rfl)
          rw [List.map_append, List.map_reverse] at this
          exact this
        have hlen : ((st.take b).reverse.map (qv X)).length = b := by
          simp only [List.length_map, List.length_reverse, List.length_take]
          omega
        have hpre : PreS s H (va_Pc ((st.take b).reverse.map (qv X)) (qPre X g I J)) ((st.take b).reverse.map (qv X)) := ⟨qPre_blind, fun U hU hW => ⟨rfl, qPre_at hcx hH U hU hW⟩⟩
        have hlk := (qLm_word k5).1 rfl
        rw [hpn] at hlk
        exact qfin (va_runS (As := (st.take b).reverse.map (qv X)) (rest := (st.drop b).map (qv X)) (n := b) hS hM ⟨callB_of b hts hG rfl rfl rfl (hts _ w4) (hts _ hlk) ⟨y3, y4, by rw [hnp, hn]⟩ hroom, hts _ (w2 k1)⟩ hpre rfl hlen hL.size hst (lv_room (by rw [qfs_map]; exact ho.1)) hd hc) hlo rfl k
      · cases hs2
    · cases h
  unfold qisc at hisc
  dsimp only at hisc
  split at hisc
  · exact virt rfl
  · exact spec rfl
  · exact stat rfl
  · cases hisc
end QCLL
