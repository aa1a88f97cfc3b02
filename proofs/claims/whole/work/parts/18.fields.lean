/-! a step of the abstract machine is a step of the machine -/
theorem qst1_has {X : qX} {n : Nat} {lv lv1 : List Value} {i : Nat} {v : Value} {l : List (Nat × Value)} (h2 : lv.length = n) (h3 : ∀ i w, lv[i]? = some w → qisp w = false → (i, qv X w) ∈ l) (hs : qst1 lv i v = some lv1) : i < n ∧ ∀ ls', lv_has ls' n ((i, qv X v) :: l.filter (fun q => !(q.1 == i) && !(q.1 + 1 == i && q.2.category == 2))) → qLs X n lv1 ls' := by
  obtain ⟨hi, rfl, hc⟩ := qst1_inv hs
  refine ⟨by rw [← h2]; exact hi, fun ls' h' => ⟨_, h', by rw [List.length_set]; exact h2, fun j w hw hp => ?_⟩⟩
  by_cases hj : j = i
  · subst hj
    rw [List.getElem?_set_self hi] at hw
    cases hw
    exact List.mem_cons_self
  · rw [List.getElem?_set_ne (Ne.symm hj)] at hw
    refine List.mem_cons_of_mem _ (List.mem_filter.mpr ⟨h3 j w hw hp, ?_⟩)
    by_cases h4 : j + 1 = i
    · have := hc j w h4 hw
      rw [qcat_eq] at this
      simp [hj, qv_cat, this]
    · simp [hj, h4]
theorem qtb_inv {pc k : Nat} {o : Option Int} (h : qtb pc o = some k) : ∃ d, o = some d ∧ (pc : Int) + d = (k : Int) := by
  unfold qtb at h
  split at h
  · rename_i d
    split at h
    · rename_i k2 e
      cases h
      exact ⟨d, rfl, e⟩
    · cases h
  · cases h
theorem qix_in {i : Int32} {n : Nat} (h : qix i n = true) : vp_in i n := vp_in_iff.mpr (of_decide_eq_true h)
theorem qnn {z : Int32} (h : 0 ≤ z.toInt) : ¬ z < 0 ∧ (z.toNatClampNeg : Int) = z.toInt := by
  refine ⟨fun hz => ?_, ?_⟩
  · have := Int32.lt_iff_toInt_lt.mp hz
    rw [Int32.toInt_zero] at this
    omega
  · show ((z.toInt.toNat : Nat) : Int) = z.toInt
    omega
section QSND
variable {p : Program} {l : Launch} {e : Env} {R : Room} {s : State} {mI : MethodId} {args : Array Value} {below : List Frame} {meth : Method} {c : Code} {H : Heap} {locs : List Loc} {cells slots : Nat} {Qf : State → Prop} {X : qX} {m pc : Nat} {lv st : List Value} {g : qG} {I : qI} {J : qJ} {ls : Array Slot}
/-- what a walk of method m stands on -/
def qMx (p : Program) (s : State) (mI : MethodId) (args : Array Value) (meth : Method) (c : Code) (m : Nat) (X : qX) : Prop :=
  p.tables.exec = Jvm.exec ∧ c.code = (qYm m).2.1 ∧ c.maxLocals = qML m ∧ s.vm.findClass (qOn (qOw m)) = some mI.cls ∧ (∀ w ∈ qTs, w.before args s = true) ∧ qCx X s ∧ meth.name = (qYm m).1.name
theorem qCx.K {X : qX} {s : State} (h : qCx X s) : va_K (xD X) qCl (qtys X) s := h.1
theorem qce_o {X : qX} {g : qG} {I : qI} {J : qJ} {a k n : Nat} (h : k < 11) : qce X g I J a k n = .inr (k, (List.range n).map (qfv X g I J k a)) := if_pos (by omega)
theorem qce_a {X : qX} {g : qG} {I : qI} {J : qJ} {a k n : Nat} (h : 100 ≤ k) : qce X g I J a k n = .inl (xC X k, qca X g I J a k n) := if_neg (by omega)
theorem qrange_at {α : Type} {n k : Nat} {f : Nat → α} (h : k < n) : ((List.range n).map f)[k]? = some (f k) := by
  rw [List.getElem?_map, List.getElem?_range h]
  rfl
theorem qs_getfield (M : qMx p s mI args meth c m X) {ix len a b t o : Nat} {v : Value} {r : List Value} (hx : qP m pc = some (.getfield ix, len, a, b, t)) (hH : qHp X g I J H) (hv : qgf a b t g I J o = some v)
    (k : W p l e R s mI args below meth c H locs cells slots Qf (F0 mI (pc + len) ls ((v :: r).map (qv X)))) : W p l e R s mI args below meth c H locs cells slots Qf (F0 mI pc ls ((.ref o :: r).map (qv X))) := by
  obtain ⟨hx0, hb, hml, hown, hts, hcx, hnm⟩ := M
  have hd := qdec hx
  have hk := qlinks hx
  unfold qlk at hk
  dsimp only at hk hd
  simp only [Bool.and_eq_true] at hk
  obtain ⟨hl, ha, hf, ht⟩ := hk
  obtain rfl := Nat.eq_of_beq_eq_true hl
  obtain rfl := Nat.eq_of_beq_eq_true ht
  obtain ⟨ha, hb1, hT1, hlink⟩ := qFm_word hf
  unfold qgf at hv
  cases ho : qob g o a with
  | false => rw [ho] at hv; cases hv
  | true =>
    rw [ho] at hv
    obtain ⟨n, hkd⟩ := qob_k ho
    obtain ⟨c1, c2, c3, c4⟩ := hH.cell hkd (by omega)
    have hn : n = qnf a := by
      rcases c3 with c3 | c3
      · exact c3.2
      · omega
    rw [qce_o ha] at c4
    have hv1 : ((List.range n).map (qfv X g I J a o))[b]? = some (qv X v) := by
      rw [qrange_at (by rw [hn]; exact hb1)]
      unfold qfv
      dsimp only [cond] at hv
      rcases qFt_ok a ha b hb1 with ⟨e1, -⟩ | ⟨e1, -⟩ | ⟨e1, -⟩ | ⟨e1, -⟩ <;> rw [e1] at hv ⊢ <;> (try dsimp only at hv ⊢) <;> cases hv
      · rfl
      · rfl
      · rfl
      · rw [qv_rf]
        rfl
    have hsame : ∀ x, s.fieldFound? ((qC3 a).2.1 b).1 ((qC3 a).2.1 b).2.1 ((qC3 a).2.1 b).2.2.1 = some x → s.fieldFound? (qOn a) ((qC3 a).2.1 b).2.1 ((qC3 a).2.1 b).2.2.1 = some x := by
      intro x h
      rw [hT1] at h
      exact h
    rcases hlink with hlink | hlink
    · exact va_get (C := (qC3 a).1) (T := (qC3 a).2.1) (N := (qC3 a).2.2) hx0 hb hts (qhin ha) hown hcx.K (va_P1 c4) 0 rfl (qC3_at ha) b hb1 (hts _ hlink) hsame hv1 hd k
    · exact va_getN (C := (qC3 a).1) (T := (qC3 a).2.1) (N := (qC3 a).2.2) hx0 hb hts (qhin ha) hown hcx.K (va_P1 c4) 0 rfl (qC3_at ha) b hb1 (va_Nw.use rfl (hcx.2.2.2.1 _ hlink)) hsame hv1 hd k
theorem qfs_set {n b : Nat} {f f' : Nat → Value} {v : Value} (hb : b < n) (h1 : f' b = v) (h2 : ∀ j, j ≠ b → f' j = f j) : ((List.range n).map f).set b v = (List.range n).map f' := by
  apply List.ext_getElem?
  intro j
  by_cases hj : j = b
  · subst hj
    rw [List.getElem?_set_self (by simp; exact hb), qrange_at hb, h1]
  · rw [List.getElem?_set_ne (Ne.symm hj), List.getElem?_map, List.getElem?_map]
    by_cases hn : j < n
    · rw [List.getElem?_range hn]
      simp [h2 j hj]
    · rw [List.getElem?_eq_none (by simp; omega)]
      rfl
theorem qs_putfield (M : qMx p s mI args meth c m X) {ix len a b t o : Nat} {v : Value} {r : List Value} {g1 : qG} {I1 : qI} {J1 : qJ} (hx : qP m pc = some (.putfield ix, len, a, b, t)) (hH : qHp X g I J H) (hlo : ∀ z ∈ locs, xB X ≤ z.base) (ho : qob g o a = true)
    (hnar : ∀ ty, ((t = 0 ∧ ty = .int) ∨ (t = 1 ∧ ty = .long) ∨ (t = 3 ∧ ty = .boolean) ∨ (t = 2 ∧ ty.isReference = true)) → narrow ty (qv X v) = qv X v ∧ fits ty (qv X v) = true)
    (hg : g1.1 = g.1 ∧ g1.2.2 = g.2.2) (hA : ∀ y, y ≠ o → g1.2.1 y = g.2.1 y) (hI : ∀ y, y ≠ o → I1 y = I y) (hJ : ∀ y, y ≠ o → J1 y = J y) (hf1 : qfv X g1 I1 J1 a o b = qv X v) (hf2 : ∀ j, j ≠ b → qfv X g1 I1 J1 a o j = qfv X g I J a o j)
    (k : ∀ H1 locs1, qHp X g1 I1 J1 H1 → (∀ z ∈ locs1, xB X ≤ z.base) → W p l e R s mI args below meth c H1 locs1 cells slots Qf (F0 mI (pc + len) ls (r.map (qv X)))) : W p l e R s mI args below meth c H locs cells slots Qf (F0 mI pc ls ((v :: .ref o :: r).map (qv X))) := by
  obtain ⟨hx0, hb, hml, hown, hts, hcx, hnm⟩ := M
  have hd := qdec hx
  have hk := qlinks hx
  unfold qlk at hk
  dsimp only at hk hd
  simp only [Bool.and_eq_true] at hk
  obtain ⟨hl, ha, hf, ht, hfin⟩ := hk
  obtain rfl := Nat.eq_of_beq_eq_true hl
  obtain rfl := Nat.eq_of_beq_eq_true ht
  obtain ⟨ha, hb1, hT1, hlink⟩ := qFm_word hf
  obtain ⟨n, hkd⟩ := qob_k ho
  obtain ⟨c1, c2, c3, c4⟩ := hH.cell hkd (by omega)
  have hn : n = qnf a := by
    rcases c3 with c3 | c3
    · exact c3.2
    · omega
  rw [qce_o ha] at c4
  have hsame : ∀ x, s.fieldFound? ((qC3 a).2.1 b).1 ((qC3 a).2.1 b).2.1 ((qC3 a).2.1 b).2.2.1 = some x → s.fieldFound? (qOn a) ((qC3 a).2.1 b).2.1 ((qC3 a).2.1 b).2.2.1 = some x := by
    intro x h
    rw [hT1] at h
    exact h
  have hty : (qFt a b = 0 ∧ qTy a b = .int) ∨ (qFt a b = 1 ∧ qTy a b = .long) ∨ (qFt a b = 3 ∧ qTy a b = .boolean) ∨ (qFt a b = 2 ∧ (qTy a b).isReference = true) := qFt_ok a ha b hb1
  obtain ⟨n1, n2⟩ := hnar (qTy a b) hty
  have hfin' : ((qC3 a).2.1 b).2.2.2 = false ∨ (meth.name = "<init>" ∧ ((qC3 a).2.1 b).1 = qOn (qOw m)) := by
    simp only [Bool.or_eq_true, Bool.and_eq_true, Bool.not_eq_true', decide_eq_true_eq] at hfin
    rcases hfin with hfin | ⟨h1, h2⟩
    · exact Or.inl hfin
    · refine Or.inr ⟨by rw [hnm]; exact h1, ?_⟩
      rw [hT1, Nat.eq_of_beq_eq_true h2]
  refine qput_field (C := (qC3 a).1) (T := (qC3 a).2.1) (N := (qC3 a).2.2) (host := RX9) hx0 hb hts (qhin ha) (qTy a) (qty_ok ha) (qnm ha) hown hcx.K c4 (qC3_at ha) b hb1 (hlink.elim (fun h => Or.inl (hts _ h)) (fun h => Or.inr (va_Nw.use rfl (hcx.2.2.2.1 _ h)))) hsame hfin' (qty_ok ha b hb1) n1 n2 (by simp; rw [hn]; exact hb1) hd (fun H1 i h1 h2 h3 => ?_)
  refine k H1 _ (hH.set hkd c1 hg hA hI hJ ?_ h2 h3) (fun z hz => ?_)
  · rw [qce_o ha, ← qfs_set (f := qfv X g I J a o) (by rw [hn]; exact hb1) hf1 hf2]
    exact h1
  · rcases List.mem_append.mp hz with h | h
    · exact hlo z h
    · rw [List.mem_singleton.mp h]
      exact qrho_le c1
end QSND
