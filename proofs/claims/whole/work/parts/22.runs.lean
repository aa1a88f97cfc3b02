/-! a whole run -/
set_option maxHeartbeats 4000000 in
theorem qstep_rets {x : qE} {pc : Nat} {ls st : List Value} {g : qG} {I : qI} {J : qJ} {v : Option Value} (h : qstep x pc ls st g I J = some (.inr (.inl v))) :
    (∃ y, x.1 = .ireturn ∧ st = [.int y] ∧ v = some (.int y) ∧ (x.2.2.2.2 = 0 ∨ (x.2.2.2.2 = 3 ∧ (y = 0 ∨ y = 1)))) ∨ (∃ y, x.1 = .lreturn ∧ st = [.long y] ∧ v = some (.long y)) ∨ (∃ y, x.1 = .areturn ∧ st = [.ref y] ∧ v = some (.ref y)) ∨ (x.1 = .areturn ∧ st = [.null] ∧ v = some .null) ∨ (x.1 = .return_ ∧ st = [] ∧ v = none) ∨ (∃ ix, x.1 = .new ix ∧ x.2.2.1 = 99 ∧ st = [] ∧ v = some (.retAddr 1)) := by
  obtain ⟨i, len, a, b, t⟩ := x
  unfold qstep at h
  dsimp only at h
  split at h
  all_goals (try unfold qcl at h)
  all_goals (try unfold qpr at h)
  all_goals (try unfold qpf at h)
  all_goals (try dsimp only at h)
  all_goals (try (generalize hq : Nat.beq a 99 = bq at h; cases bq <;> dsimp only [cond] at h))
  all_goals (repeat' (first | split at h | (simp only [Option.bind_eq_some_iff, Option.some.injEq, Sum.inr.injEq, Sum.inl.injEq, Prod.mk.injEq, reduceCtorEq, cond_eq_ite, and_false, exists_false, false_and] at h)))
  all_goals (try (simp only [Option.bind_eq_some_iff, Option.some.injEq, Sum.inr.injEq, Prod.mk.injEq, reduceCtorEq, and_false, exists_false] at h; done))
  all_goals (try (subst h; exact Or.inl ⟨_, rfl, rfl, rfl, Or.inl rfl⟩))
  all_goals (try (subst h; exact Or.inl ⟨_, rfl, rfl, rfl, Or.inr ⟨rfl, by assumption⟩⟩))
  all_goals (try (subst h; exact Or.inr (Or.inl ⟨_, rfl, rfl, rfl⟩)))
  all_goals (try (subst h; exact Or.inr (Or.inr (Or.inl ⟨_, rfl, rfl, rfl⟩))))
  all_goals (try (subst h; exact Or.inr (Or.inr (Or.inr (Or.inl ⟨rfl, rfl, rfl⟩)))))
  all_goals (try (subst h; exact Or.inr (Or.inr (Or.inr (Or.inr (Or.inl ⟨rfl, rfl, rfl⟩))))))
  all_goals (try (subst h; exact Or.inr (Or.inr (Or.inr (Or.inr (Or.inr ⟨_, rfl, Nat.eq_of_beq_eq_true hq, List.isEmpty_iff.mp (by assumption), rfl⟩))))))
theorem qcl_len {x : qE} {n c pc' : Nat} {lv st as r : List Value} {g : qG} {I : qI} {J : qJ} (h : qcl x n lv st g I J = some (.inr (.inr (c, as, pc', r)))) : (qlay as).length ≤ qML c := by
  obtain ⟨i, len, a, b, t⟩ := x
  unfold qcl at h
  dsimp only at h
  cases hq : Nat.ble 1000 a with
  | true =>
    rw [hq] at h
    dsimp only [cond] at h
    unfold qpr at h
    repeat' (first | split at h | (simp only [Option.some.injEq, Sum.inr.injEq, Prod.mk.injEq, reduceCtorEq] at h))
  | false =>
    rw [hq] at h
    dsimp only [cond] at h
    split at h
    · split at h
      · rename_i zc
        simp only [Option.some.injEq, Sum.inr.injEq, Prod.mk.injEq] at h
        obtain ⟨z1, z2, -⟩ := h
        rw [← z1, ← z2]
        exact zc.2.2
      · cases h
    · split at h
      · split at h
        · rename_i zc
          simp only [Option.some.injEq, Sum.inr.injEq, Prod.mk.injEq] at h
          obtain ⟨z1, z2, -⟩ := h
          rw [← z1, ← z2]
          exact zc.2.2
        · cases h
      · cases h
theorem qstep_clen {x : qE} {pc c pc' : Nat} {lv st as r : List Value} {g : qG} {I : qI} {J : qJ} (h : qstep x pc lv st g I J = some (.inr (.inr (c, as, pc', r)))) : (qlay as).length ≤ qML c := by
  obtain ⟨-, hi⟩ := qstep_call h
  obtain ⟨i, len, a, b, t⟩ := x
  unfold qisc at hi
  dsimp only at hi
  split at hi
  · rename_i zix
    exact qcl_len (x := (.invokevirtual zix, len, a, b, t)) (n := pc + len) h
  · rename_i zix
    exact qcl_len (x := (.invokespecial zix, len, a, b, t)) (n := pc + len) h
  · rename_i zix
    exact qcl_len (x := (.invokestatic zix, len, a, b, t)) (n := pc + len) h
  · cases hi
set_option maxRecDepth 100000 in
theorem qn269 : ∀ m, m < 269 → qall m (fun x => !(qisc x && Nat.beq x.2.2.1 269)) = true := by decide +kernel
theorem qcall_ok {m pc c pc' : Nat} {x : qE} {lv st as r : List Value} {g : qG} {I : qI} {J : qJ} (hm : m < 269) (hx : qP m pc = some x) (h : qstep x pc lv st g I J = some (.inr (.inr (c, as, pc', r)))) : c < 269 := by
  obtain ⟨h1, h2⟩ := qstep_call h
  have h3 := qall_at (qn269 m hm) hx
  try dsimp only at h3
  rw [h2, h1] at h3
  have hk := qlinks hx
  obtain ⟨i, len, a, b, t⟩ := x
  dsimp only at h1
  subst h1
  have hlt : a < 1000 := by
    unfold qisc at h2
    dsimp only at h2
    split at h2
    · exact Nat.lt_of_lt_of_le (Nat.lt_succ_self a) (Nat.le_of_ble_eq_true h2)
    · exact Nat.lt_of_lt_of_le (Nat.lt_succ_self a) (Nat.le_of_ble_eq_true h2)
    · exact Nat.lt_of_lt_of_le (Nat.lt_succ_self a) (Nat.le_of_ble_eq_true h2)
    · cases h2
  have hble : Nat.ble 1000 a = false := by
    cases hq : Nat.ble 1000 a with
    | false => rfl
    | true => have := Nat.le_of_ble_eq_true hq; omega
  have hne : ¬ a = 269 := fun hz => by rw [hz] at h3; cases h3
  have h270 : a < 270 := by
    unfold qisc at h2
    dsimp only at h2
    split at h2
    · unfold qlk at hk
      dsimp only at hk
      simp only [Bool.and_eq_true] at hk
      exact (qcall_c hk.2.2 hble).1
    · unfold qlk at hk
      dsimp only at hk
      simp only [Bool.and_eq_true] at hk
      exact (qcall_c hk.2.2 hble).1
    · unfold qlk at hk
      dsimp only at hk
      simp only [Bool.and_eq_true] at hk
      exact (qcall_c hk.2.2 hble).1
    · cases h2
  omega
section QRN
variable {l : Launch} {X : qX}
theorem qRt_int {m : Nat} (h : qRt m = 0) : (qYm m).2.2.2 = some .int := by
  unfold qRt at h
  split at h
  all_goals first | assumption | cases h
theorem qRt_bool {m : Nat} (h : qRt m = 3) : (qYm m).2.2.2 = some .boolean := by
  unfold qRt at h
  split at h
  all_goals first | assumption | cases h
theorem qRt_long {m : Nat} (h : qRt m = 1) : (qYm m).2.2.2 = some .long := by
  unfold qRt at h
  split at h
  all_goals first | assumption | cases h
theorem qRt_ref {m : Nat} (h : qRt m = 2) : ∃ n, (qYm m).2.2.2 = some (.object n) := by
  unfold qRt at h
  split at h
  all_goals first | exact ⟨_, by assumption⟩ | cases h
theorem qret_snd {p : Program} {e : Env} {R : Room} {s : State} {mI : MethodId} {args : Array Value} {below : List Frame} {meth : Method} {c : Code} {H : Heap} {locs : List Loc} {cells slots : Nat} {m pc : Nat} {lv st : List Value} {g : qG} {I : qI} {J : qJ} {ls : Array Slot} {x : qE} {v : Option Value} {Qc : Array Value → State → Outcome → State → Prop}
    (M : qMx p s mI args meth c m X) (hr : meth.sig.returnType = (qYm m).2.2.2) (hlk : meth.locks = false) (hx : qP m pc = some x) (hs : qstep x pc lv st g I J = some (.inr (.inl v))) (ht : qthr v = false) (hlo : ∀ z ∈ locs, xB X ≤ z.base)
    (hQ : ∀ t : State, t.heap = H → s.WarmedH t.vm → Qc args s (.returned (v.map (qv X))) t) : W p l e R s mI args below meth c H locs cells slots (MQ below Qc args s cells slots (qAA X)) (F0 mI pc ls (st.map (qv X))) := by
  obtain ⟨hx0, hb, hml, hown, hts, hcx, hnm⟩ := M
  have hd := qdec hx
  have hk := qlinks hx
  have hcs := qstep_rets hs
  obtain ⟨i, len, a, b, t⟩ := x
  dsimp only at hcs hd
  rcases hcs with ⟨y, rfl, rfl, rfl, hty⟩ | ⟨y, rfl, rfl, rfl⟩ | ⟨y, rfl, rfl, rfl⟩ | ⟨rfl, rfl, rfl⟩ | ⟨rfl, rfl, rfl⟩ | ⟨ix, rfl, -, -, rfl⟩
  · unfold qlk at hk
    dsimp only at hk
    simp only [Bool.and_eq_true] at hk
    obtain rfl := Nat.eq_of_beq_eq_true hk.1
    have h2 := Nat.eq_of_beq_eq_true hk.2
    rcases hty with rfl | ⟨rfl, h01⟩
    · exact W.iret hx0 hb (by rw [hr]; exact qRt_int h2.symm) hQ hlo hd (hlocks := hlk)
    · exact W.zret hx0 hb (by rw [hr]; exact qRt_bool h2.symm) (by rcases h01 with rfl | rfl <;> rfl) hQ hlo hd (hlocks := hlk)
  · unfold qlk at hk
    dsimp only at hk
    simp only [Bool.and_eq_true] at hk
    obtain rfl := Nat.eq_of_beq_eq_true hk.1
    exact W.lret hx0 hb (by rw [hr]; exact qRt_long (Nat.eq_of_beq_eq_true hk.2)) hQ hlo hd (hlocks := hlk)
  · unfold qlk at hk
    dsimp only at hk
    simp only [Bool.and_eq_true] at hk
    obtain rfl := Nat.eq_of_beq_eq_true hk.1
    obtain ⟨n9, h9⟩ := qRt_ref (Nat.eq_of_beq_eq_true hk.2)
    exact W.aret hx0 hb (by rw [hr]; exact h9) (Or.inl ⟨n9, rfl⟩) (Or.inr ⟨_, rfl⟩) hQ hlo hd (hlocks := hlk)
  · unfold qlk at hk
    dsimp only at hk
    simp only [Bool.and_eq_true] at hk
    obtain rfl := Nat.eq_of_beq_eq_true hk.1
    obtain ⟨n9, h9⟩ := qRt_ref (Nat.eq_of_beq_eq_true hk.2)
    exact W.aret hx0 hb (by rw [hr]; exact h9) (Or.inl ⟨n9, rfl⟩) (Or.inl rfl) hQ hlo hd (hlocks := hlk)
  · unfold qlk at hk
    dsimp only at hk
    simp only [Bool.and_eq_true] at hk
    obtain rfl := Nat.eq_of_beq_eq_true hk.1
    exact W.vret hx0 hb (by rw [hr]; exact qRt_none (Nat.eq_of_beq_eq_true hk.2)) hQ hlo hd (hlocks := hlk)
  · cases ht
/-- what n steps of a run of method m say of the machine -/
def qWR (l : Launch) (X : qX) (n m : Nat) : Prop := ∀ (d pc : Nat) (lv st : List Value) (g : qG) (I : qI) (J : qJ) (v : Option Value) (g' : qG) (I' : qI) (J' : qJ), qrun n d m (pc, lv, st, g, I, J) = some (v, g', I', J') →
  ∀ (p : Program) (e : Env) (R : Room) (s : State) (mI : MethodId) (args : Array Value) (below : List Frame) (meth : Method) (c : Code) (H : Heap) (locs : List Loc) (cells slots : Nat) (Qf : State → Prop) (ls : Array Slot),
    qMx p s mI args meth c m X → d + 10 ≤ R.frames ∧ 64 * d + 200 ≤ R.locals → cells + (g'.2.2.1 - g.2.2.1) ≤ R.cells → slots + (g'.2.2.2 - g.2.2.2) ≤ R.slots → qLs X (qML m) lv ls → qHp X g I J H → (∀ z ∈ locs, xB X ≤ z.base) →
    (∀ (x : qE) (pc2 : Nat) (lv2 st2 : List Value) (ls2 : Array Slot) (H2 : Heap) (locs2 : List Loc), qP m pc2 = some x → qstep x pc2 lv2 st2 g' I' J' = some (.inr (.inl v)) → qLs X (qML m) lv2 ls2 → qHp X g' I' J' H2 → (∀ z ∈ locs2, xB X ≤ z.base) → W p l e R s mI args below meth c H2 locs2 (cells + (g'.2.2.1 - g.2.2.1)) (slots + (g'.2.2.2 - g.2.2.2)) Qf (F0 mI pc2 ls2 (st2.map (qv X)))) →
    W p l e R s mI args below meth c H locs cells slots Qf (F0 mI pc ls (st.map (qv X)))
theorem qmet {n d m : Nat} {as : List Value} {g : qG} {I : qI} {J : qJ} {v : Option Value} {g' : qG} {I' : qI} {J' : qJ} (hW : qWR l X n m) (hm : m < 269) (h : qrun n d m (0, qent m as, [], g, I, J) = some (v, g', I', J')) (ht : qthr v = false) (hq : (qlay as).length ≤ qML m) :
    Met l (qYm m).1 (qWs m) (qRm d (g'.2.2.1 - g.2.2.1) (g'.2.2.2 - g.2.2.2)) (va_Pc (as.map (qv X)) (qPre X g I J)) (qQc X v g' I' J') (g'.2.2.1 - g.2.2.1) (g'.2.2.2 - g.2.2.2) (qAA X) := by
  obtain ⟨y1, y2, y3, y4, y5, y6⟩ := qYm_cls m (by omega)
  refine Met.ofW (cc := (qYm m).2.1) (maxL := (qYm m).2.2.1) (ret := (qYm m).2.2.2) y2 rfl ?_
  intro p e s mI args below meth c s₁ B hml hv
  obtain ⟨rfl, hH, hcx⟩ := hv
  have hts := atoms_spec (ws := qWs m) B.pre
  have hown : s.vm.findClass (qYm m).1.cls = some mI.cls := findClass_of_methodNamed B.named
  rw [y1] at hown
  have hnm : meth.name = (qYm m).1.name := (name_of_methodNamed B.named B.method).1
  have M : qMx p s mI (as.map (qv X)).toArray meth c m X := ⟨B.exec, B.bytes, by rw [hml, y5], hown, fun w hw => hts w (List.mem_cons_of_mem _ hw), hcx, hnm⟩
  rw [lg_entry_eq, y5]
  refine hW d 0 (qent m as) [] g I J v g' I' J' h p e _ s mI _ below meth c s.heap [] 0 0 _ _ M ⟨Nat.le_refl _, Nat.le_refl _⟩ (by rw [Nat.zero_add]; exact Nat.le_refl _) (by rw [Nat.zero_add]; exact Nat.le_refl _) (qLs_entry X as (qML m) hq) hH (fun z hz => by cases hz) ?_
  intro x pc2 lv2 st2 ls2 H2 locs2 hx hs hL hH2 hlo
  rw [Nat.zero_add, Nat.zero_add]
  exact qret_snd M B.returns B.notSynchronized hx hs ht hlo (fun t h9 hW9 => ⟨rfl, by rw [h9]; exact hH2⟩)
theorem qWR_step (hSl : qSl l X) (hSc : qSc l X) {n m : Nat} (hm : ¬ m = 269) (ih : qWR l X n m) (hcall : ∀ {d pc c pc' : Nat} {x : qE} {lv st as r : List Value} {g : qG} {I : qI} {J : qJ} {v2 : Option Value} {g2 : qG} {I2 : qI} {J2 : qJ}, qP m pc = some x → qstep x pc lv st g I J = some (.inr (.inr (c, as, pc', r))) → qrun n d c (0, qent c as, [], g, I, J) = some (v2, g2, I2, J2) → qthr v2 = false →
      ∀ (p : Program) (e : Env) (R : Room) (s : State) (mI : MethodId) (args : Array Value) (below : List Frame) (meth : Method) (cd : Code) (H : Heap) (locs : List Loc) (cells slots : Nat) (Qf : State → Prop) (ls : Array Slot), qMx p s mI args meth cd m X → d + 1 + 10 ≤ R.frames ∧ 64 * (d + 1) + 200 ≤ R.locals → cells + (g2.2.2.1 - g.2.2.1) ≤ R.cells ∧ slots + (g2.2.2.2 - g.2.2.2) ≤ R.slots → qLs X (qML m) lv ls → qHp X g I J H → (∀ z ∈ locs, xB X ≤ z.base) →
      (∀ H1 locs1, qHp X g2 I2 J2 H1 → (∀ z ∈ locs1, xB X ≤ z.base) → W p l e R s mI args below meth cd H1 locs1 (cells + (g2.2.2.1 - g.2.2.1)) (slots + (g2.2.2.2 - g.2.2.2)) Qf (F0 mI pc' ls ((v2.toList ++ r).map (qv X)))) → W p l e R s mI args below meth cd H locs cells slots Qf (F0 mI pc ls (st.map (qv X)))) : qWR l X (n + 1) m := by
  intro d pc lv st g I J v g' I' J' h p e R s mI args below meth c H locs cells slots Qf ls M hR hc hsl hL hH hlo hend
  rw [qrun_s] at h
  cases hx : qP m pc with
  | none => rw [hx] at h; cases h
  | some x =>
    rw [hx] at h
    dsimp only at h
    cases hs : qstep x pc lv st g I J with
    | none => rw [hs] at h; cases h
    | some r =>
      rw [hs] at h
      obtain ⟨pc1, lv1, st1, g1, I1, J1⟩ | v1 | ⟨cc, as, pc', rest⟩ := r
      · dsimp only at h
        have z1 := qstep_mono hs
        have z2 := qrun_sz _ _ _ _ _ _ _ _ h
        dsimp only at z2
        refine qstep_snd M hSl hSc hx hs ⟨by omega, by omega⟩ (by omega) (by omega) hL hH hlo (fun ls1 H1 locs1 a1 a2 a3 => ?_)
        refine ih d pc1 lv1 st1 g1 I1 J1 v g' I' J' h p e R s mI args below meth c H1 locs1 _ _ Qf ls1 M hR (by omega) (by omega) a1 a2 a3 (fun x2 pc2 lv2 st2 ls2 H2 locs2 b1 b2 b3 b4 b5 => ?_)
        have z9 := hend x2 pc2 lv2 st2 ls2 H2 locs2 b1 b2 b3 b4 b5
        rw [show cells + (g1.2.2.1 - g.2.2.1) + (g'.2.2.1 - g1.2.2.1) = cells + (g'.2.2.1 - g.2.2.1) by omega, show slots + (g1.2.2.2 - g.2.2.2) + (g'.2.2.2 - g1.2.2.2) = slots + (g'.2.2.2 - g.2.2.2) by omega]
        exact z9
      · cases h
        have z9 := hend x pc lv st ls H locs hx hs hL hH hlo
        simp only [Nat.sub_self, Nat.add_zero] at z9
        exact z9
      · dsimp only at h
        cases d with
        | zero => cases h
        | succ d' =>
          dsimp only at h
          cases hc2 : qrun n d' cc (0, qent cc as, [], g, I, J) with
          | none => rw [hc2] at h; cases h
          | some w =>
            rw [hc2] at h
            obtain ⟨v2, g2, I2, J2⟩ := w
            dsimp only at h
            have z1 := qrun_sz _ _ _ _ _ _ _ _ hc2
            dsimp only at z1
            cases ht : qthr v2 with
            | false =>
              rw [ht] at h
              dsimp only at h
              have z2 := qrun_sz _ _ _ _ _ _ _ _ h
              dsimp only at z2
              refine hcall hx hs hc2 ht p e R s mI args below meth c H locs cells slots Qf ls M ⟨by omega, by omega⟩ ⟨by omega, by omega⟩ hL hH hlo (fun H1 locs1 a1 a2 => ?_)
              refine ih (d' + 1) pc' lv (v2.toList ++ rest) g2 I2 J2 v g' I' J' h p e R s mI args below meth c H1 locs1 _ _ Qf ls M hR (by omega) (by omega) hL a1 a2 (fun x2 pc2 lv2 st2 ls2 H2 locs2 b1 b2 b3 b4 b5 => ?_)
              have z9 := hend x2 pc2 lv2 st2 ls2 H2 locs2 b1 b2 b3 b4 b5
              rw [show cells + (g2.2.2.1 - g.2.2.1) + (g'.2.2.1 - g2.2.2.1) = cells + (g'.2.2.1 - g.2.2.1) by omega, show slots + (g2.2.2.2 - g.2.2.2) + (g'.2.2.2 - g2.2.2.2) = slots + (g'.2.2.2 - g.2.2.2) by omega]
              exact z9
            | true =>
              rw [ht] at h
              dsimp only at h
              cases hb : Nat.beq m 269 with
              | false => rw [hb] at h; cases h
              | true => exact absurd (Nat.eq_of_beq_eq_true hb) hm
theorem qWR_all (hSl : qSl l X) (hSc : qSc l X) : ∀ n m, m < 269 → qWR l X n m := by
  intro n
  induction n with
  | zero => intro m hm d pc lv st g I J v g' I' J' h; cases h
  | succ n ih =>
    intro m hm
    refine qWR_step hSl hSc (by omega) (ih m hm) ?_
    intro d pc cc pc' x lv st as r g I J v2 g2 I2 J2 hx hs hc2 ht p e R s mI args below meth c H locs cells slots Qf ls M hR hc hL hH hlo k
    have hcc := qcall_ok hm hx hs
    exact qcall_snd M hx hs hcc (qmet (ih cc hcc) hcc hc2 ht (qstep_clen hs)) hR hc hL hH hlo k
end QRN
