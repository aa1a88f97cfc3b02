section QSTP
variable {p : Program} {l : Launch} {e : Env} {R : Room} {s : State} {mI : MethodId} {args : Array Value} {below : List Frame} {meth : Method} {c : Code} {H : Heap} {locs : List Loc} {cells slots : Nat} {Qf : State → Prop} {X : qX} {m pc : Nat} {lv st : List Value} {g : qG} {I : qI} {J : qJ} {ls : Array Slot}
theorem qmk_1 {k n : Nat} : (qmk k n g).2.2.1 - g.2.2.1 = 1 := Nat.add_sub_cancel_left ..
theorem qmk_2 {k n : Nat} : (qmk k n g).2.2.2 - g.2.2.2 = n := Nat.add_sub_cancel_left ..
/-- String.length and String.charAt, as contracts -/
def qSM (X : qX) (U : State) : Prop := (∀ q, q < xB X → U.heap[q]? = (xH X)[q]?) ∧ xB X ≤ U.heap.size ∧ qCx X U
def qSl (l : Launch) (X : qX) : Prop := ∀ o, 1 ≤ o → o ≤ 3 → Met l yJ0_length_8abf5 (Cond.code yJ0_length_8abf5 cJ0_length_8abf5 1 (some .int) :: qTs) { frames := 5, cells := 0, slots := 0, locals := 160 } (va_Pc [.ref (qrho X o)] (qSM X)) (fun _ st oc t => oc = .returned (some (.int (Int32.ofNat (qstr o).length))) ∧ t.heap = st.heap) 0 0 (fun _ => False)
def qSc (l : Launch) (X : qX) : Prop := ∀ (o : Nat) (i : Int32), 1 ≤ o → o ≤ 3 → qix i (qstr o).length = true → Met l yJ0_charAt_5068e (Cond.code yJ0_charAt_5068e cJ0_charAt_5068e 2 (some .char) :: qTs) { frames := 5, cells := 0, slots := 0, locals := 160 } (va_Pc [.ref (qrho X o), .int i] (qSM X)) (fun _ st oc t => oc = .returned (some (.int (Int32.ofNat ((qstr o).getD i.toNatClampNeg 0)))) ∧ t.heap = st.heap) 0 0 (fun _ => False)
theorem qs_ifCond {cd : Jvm.ClassFile.Cond} {o : Int} {t : Nat} {pc1 : Nat} {lv1 st1 : List Value} {g1 : qG} {I1 : qI} {J1 : qJ} (hx0 : p.tables.exec = Jvm.exec) (hb : c.code = (qYm m).2.1) (hd : decode (qYm m).2.1 pc = .ok (.ifCond cd o, 3)) (ht : (pc : Int) + o = (t : Int))
    (hs : (match st with
      | .int v :: r => bif qc1 cd v then qnx t lv r g I J else qnx (pc + 3) lv r g I J
      | _ => none) = some (.inl (pc1, lv1, st1, g1, I1, J1))) (k : ∀ f : qF, f = (pc1, lv1, st1, g1, I1, J1) → f.2.1 = lv → f.2.2.2 = (g, I, J) → W p l e R s mI args below meth c H locs cells slots Qf (F0 mI f.1 ls (f.2.2.1.map (qv X)))) : W p l e R s mI args below meth c H locs cells slots Qf (F0 mI pc ls (st.map (qv X))) := by
  split at hs
  · rename_i v r
    cases hq : qc1 cd v with
    | true =>
      rw [hq] at hs
      cases hs
      have k := k _ rfl rfl rfl
      unfold qc1 at hq
      cases cd
      · exact lv_if_eq hx0 hb hd ht (fun _ => k) (fun h => absurd (of_decide_eq_true hq) h)
      · exact lv_if_ne hx0 hb hd ht (fun _ => k) (fun h => absurd h (of_decide_eq_true hq))
      · exact lv_if_lt hx0 hb hd ht (fun _ => k) (fun h => absurd (of_decide_eq_true hq) h)
      · exact lv_if_ge hx0 hb hd ht (fun _ => k) (fun h => absurd (of_decide_eq_true hq) h)
      · exact lv_if_gt hx0 hb hd ht (fun _ => k) (fun h => absurd (of_decide_eq_true hq) h)
      · exact lv_if_le hx0 hb hd ht (fun _ => k) (fun h => absurd (of_decide_eq_true hq) h)
    | false =>
      rw [hq] at hs
      cases hs
      have k := k _ rfl rfl rfl
      unfold qc1 at hq
      cases cd
      · exact lv_if_eq hx0 hb hd ht (fun h => absurd h (of_decide_eq_false hq)) (fun _ => k)
      · exact lv_if_ne hx0 hb hd ht (fun h => absurd h (of_decide_eq_false hq)) (fun _ => k)
      · exact lv_if_lt hx0 hb hd ht (fun h => absurd h (of_decide_eq_false hq)) (fun _ => k)
      · exact lv_if_ge hx0 hb hd ht (fun h => absurd h (of_decide_eq_false hq)) (fun _ => k)
      · exact lv_if_gt hx0 hb hd ht (fun h => absurd h (of_decide_eq_false hq)) (fun _ => k)
      · exact lv_if_le hx0 hb hd ht (fun h => absurd h (of_decide_eq_false hq)) (fun _ => k)
  · cases hs
theorem qs_if_icmp {cd : Jvm.ClassFile.Cond} {o : Int} {t : Nat} {pc1 : Nat} {lv1 st1 : List Value} {g1 : qG} {I1 : qI} {J1 : qJ} (hx0 : p.tables.exec = Jvm.exec) (hb : c.code = (qYm m).2.1) (hd : decode (qYm m).2.1 pc = .ok (.if_icmp cd o, 3)) (ht : (pc : Int) + o = (t : Int))
    (hs : (match st with
      | .int y :: .int x :: r => bif qc2 cd x y then qnx t lv r g I J else qnx (pc + 3) lv r g I J
      | _ => none) = some (.inl (pc1, lv1, st1, g1, I1, J1))) (k : ∀ f : qF, f = (pc1, lv1, st1, g1, I1, J1) → f.2.1 = lv → f.2.2.2 = (g, I, J) → W p l e R s mI args below meth c H locs cells slots Qf (F0 mI f.1 ls (f.2.2.1.map (qv X)))) : W p l e R s mI args below meth c H locs cells slots Qf (F0 mI pc ls (st.map (qv X))) := by
  split at hs
  · rename_i y x r
    cases hq : qc2 cd x y with
    | true =>
      rw [hq] at hs
      cases hs
      have k := k _ rfl rfl rfl
      unfold qc2 at hq
      cases cd
      · exact lv_icmp_eq hx0 hb hd ht (fun _ => k) (fun h => absurd (of_decide_eq_true hq) h)
      · exact lv_icmp_ne hx0 hb hd ht (fun _ => k) (fun h => absurd h (of_decide_eq_true hq))
      · exact lv_icmp_lt hx0 hb hd ht (fun _ => k) (fun h => absurd (of_decide_eq_true hq) h)
      · exact lv_icmp_ge hx0 hb hd ht (fun _ => k) (fun h => absurd (of_decide_eq_true hq) h)
      · exact lv_icmp_gt hx0 hb hd ht (fun _ => k) (fun h => absurd (of_decide_eq_true hq) h)
      · exact lv_icmp_le hx0 hb hd ht (fun _ => k) (fun h => absurd (of_decide_eq_true hq) h)
    | false =>
      rw [hq] at hs
      cases hs
      have k := k _ rfl rfl rfl
      unfold qc2 at hq
      cases cd
      · exact lv_icmp_eq hx0 hb hd ht (fun h => absurd h (of_decide_eq_false hq)) (fun _ => k)
      · exact lv_icmp_ne hx0 hb hd ht (fun h => absurd h (of_decide_eq_false hq)) (fun _ => k)
      · exact lv_icmp_lt hx0 hb hd ht (fun h => absurd h (of_decide_eq_false hq)) (fun _ => k)
      · exact lv_icmp_ge hx0 hb hd ht (fun h => absurd h (of_decide_eq_false hq)) (fun _ => k)
      · exact lv_icmp_gt hx0 hb hd ht (fun h => absurd h (of_decide_eq_false hq)) (fun _ => k)
      · exact lv_icmp_le hx0 hb hd ht (fun h => absurd h (of_decide_eq_false hq)) (fun _ => k)
  · cases hs
theorem qpf_t {ix len a b t : Nat} (hx : qP m pc = some (.putfield ix, len, a, b, t)) : qFt a b = t := by
  have hk := qlinks hx
  unfold qlk at hk
  dsimp only at hk
  simp only [Bool.and_eq_true] at hk
  exact (Nat.eq_of_beq_eq_true hk.2.2.2.1).symm
theorem qref_ok {ty : FieldType} (h : ty.isReference = true) (v : Value) (hv : v = .null ∨ ∃ a, v = .ref a) : narrow ty v = v ∧ fits ty v = true := by
  rcases hv with rfl | ⟨a, rfl⟩ <;> cases ty <;> first | exact ⟨rfl, rfl⟩ | cases h
theorem qs_pf (M : qMx p s mI args meth c m X) {ix len a b t : Nat} {pc1 : Nat} {lv1 st1 : List Value} {g1 : qG} {I1 : qI} {J1 : qJ} (hx : qP m pc = some (.putfield ix, len, a, b, t)) (hL : qLs X (qML m) lv ls) (hH : qHp X g I J H) (hlo : ∀ z ∈ locs, xB X ≤ z.base)
    (hs : qpf a b t (pc + len) lv st g I J = some (.inl (pc1, lv1, st1, g1, I1, J1)))
    (k : ∀ ls1 H1 locs1, qLs X (qML m) lv1 ls1 → qHp X g1 I1 J1 H1 → (∀ z ∈ locs1, xB X ≤ z.base) → W p l e R s mI args below meth c H1 locs1 (cells + (g1.2.2.1 - g.2.2.1)) (slots + (g1.2.2.2 - g.2.2.2)) Qf (F0 mI pc1 ls1 (st1.map (qv X)))) : W p l e R s mI args below meth c H locs cells slots Qf (F0 mI pc ls (st.map (qv X))) := by
  have hft := qpf_t hx
  unfold qpf at hs
  split at hs
  · split at hs
    · rename_i v o r
      cases ho : qob g o a with
      | false => rw [ho] at hs; cases hs
      | true =>
        rw [ho] at hs
        cases hs
        refine qs_putfield (g1 := g) (I1 := qw I o b v) (J1 := J) M hx hH hlo ho (fun ty hty => ?_) ⟨rfl, rfl⟩ (fun _ _ => rfl) (fun y hy => va_up_ne _ _ hy) (fun _ _ => rfl) ?_ (fun j hj => ?_) (fun H1 locs1 h1 h2 => ?_)
        · rcases hty with ⟨-, rfl⟩ | ⟨h, -⟩ | ⟨h, -⟩ | ⟨h, -⟩
          · exact ⟨rfl, rfl⟩
          · cases h
          · cases h
          · cases h
        · unfold qfv
          rw [hft, qw_self, va_up_self]
          rfl
        · unfold qfv
          rw [qw_self, va_up_ne _ _ hj]
        · have k := k ls H1 locs1 hL h1 h2
          simp only [Nat.sub_self, Nat.add_zero] at k
          exact k
    · cases hs
  · split at hs
    · rename_i v o r
      cases ho : qob g o a with
      | false => rw [ho] at hs; cases hs
      | true =>
        rw [ho] at hs
        dsimp only [cond] at hs
        split at hs
        · rename_i hv01
          cases hs
          refine qs_putfield (g1 := g) (I1 := qw I o b v) (J1 := J) M hx hH hlo ho (fun ty hty => ?_) ⟨rfl, rfl⟩ (fun _ _ => rfl) (fun y hy => va_up_ne _ _ hy) (fun _ _ => rfl) ?_ (fun j hj => ?_) (fun H1 locs1 h1 h2 => ?_)
          · rcases hty with ⟨h, -⟩ | ⟨h, -⟩ | ⟨-, rfl⟩ | ⟨h, -⟩
            · cases h
            · cases h
            · rcases hv01 with rfl | rfl
              · exact ⟨rfl, rfl⟩
              · exact ⟨rfl, rfl⟩
            · cases h
          · unfold qfv
            rw [hft, qw_self, va_up_self]
            rfl
          · unfold qfv
            rw [qw_self, va_up_ne _ _ hj]
          · have k := k ls H1 locs1 hL h1 h2
            simp only [Nat.sub_self, Nat.add_zero] at k
            exact k
        · cases hs
    · cases hs
  · split at hs
    · rename_i v o r
      cases ho : qob g o a with
      | false => rw [ho] at hs; cases hs
      | true =>
        rw [ho] at hs
        cases hs
        refine qs_putfield (g1 := g) (I1 := I) (J1 := qw J o b v) M hx hH hlo ho (fun ty hty => ?_) ⟨rfl, rfl⟩ (fun _ _ => rfl) (fun _ _ => rfl) (fun y hy => va_up_ne _ _ hy) ?_ (fun j hj => ?_) (fun H1 locs1 h1 h2 => ?_)
        · rcases hty with ⟨h, -⟩ | ⟨-, rfl⟩ | ⟨h, -⟩ | ⟨h, -⟩
          · cases h
          · exact ⟨rfl, rfl⟩
          · cases h
          · cases h
        · unfold qfv
          rw [hft, qw_self, va_up_self]
          rfl
        · unfold qfv
          rw [qw_self, va_up_ne _ _ hj]
        · have k := k ls H1 locs1 hL h1 h2
          simp only [Nat.sub_self, Nat.add_zero] at k
          exact k
    · cases hs
  · split at hs
    · rename_i v o r
      cases ho : qob g o a with
      | false => rw [ho] at hs; cases hs
      | true =>
        rw [ho] at hs
        cases hs
        refine qs_putfield (g1 := (g.1, qw g.2.1 o b (some v), g.2.2)) (I1 := I) (J1 := J) M hx hH hlo ho (fun ty hty => ?_) ⟨rfl, rfl⟩ (fun y hy => va_up_ne _ _ hy) (fun _ _ => rfl) (fun _ _ => rfl) ?_ (fun j hj => ?_) (fun H1 locs1 h1 h2 => ?_)
        · rcases hty with ⟨h, -⟩ | ⟨h, -⟩ | ⟨h, -⟩ | ⟨-, h⟩
          · cases h
          · cases h
          · cases h
          · exact qref_ok h _ (Or.inr ⟨_, rfl⟩)
        · unfold qfv
          dsimp only
          rw [hft, qw_self, va_up_self]
          rfl
        · unfold qfv
          dsimp only
          rw [qw_self, va_up_ne _ _ hj]
        · have k := k ls H1 locs1 hL h1 h2
          simp only [Nat.sub_self, Nat.add_zero] at k
          exact k
    · rename_i o r
      cases ho : qob g o a with
      | false => rw [ho] at hs; cases hs
      | true =>
        rw [ho] at hs
        cases hs
        refine qs_putfield (g1 := (g.1, qw g.2.1 o b none, g.2.2)) (I1 := I) (J1 := J) M hx hH hlo ho (fun ty hty => ?_) ⟨rfl, rfl⟩ (fun y hy => va_up_ne _ _ hy) (fun _ _ => rfl) (fun _ _ => rfl) ?_ (fun j hj => ?_) (fun H1 locs1 h1 h2 => ?_)
        · rcases hty with ⟨h, -⟩ | ⟨h, -⟩ | ⟨h, -⟩ | ⟨-, h⟩
          · cases h
          · cases h
          · cases h
          · exact qref_ok h _ (Or.inl rfl)
        · unfold qfv
          dsimp only
          rw [hft, qw_self, va_up_self]
          rfl
        · unfold qfv
          dsimp only
          rw [qw_self, va_up_ne _ _ hj]
        · have k := k ls H1 locs1 hL h1 h2
          simp only [Nat.sub_self, Nat.add_zero] at k
          exact k
    · cases hs
  · cases hs
theorem qcl_prim {i : Instr} {len a b t n : Nat} {pc1 : Nat} {lv1 st1 : List Value} {g1 : qG} {I1 : qI} {J1 : qJ} (hs : qcl (i, len, a, b, t) n lv st g I J = some (.inl (pc1, lv1, st1, g1, I1, J1))) : 1000 ≤ a ∧ qpr a n lv st g I J = some (.inl (pc1, lv1, st1, g1, I1, J1)) := by
  unfold qcl at hs
  dsimp only at hs
  cases hq : Nat.ble 1000 a with
  | true =>
    rw [hq] at hs
    exact ⟨Nat.le_of_ble_eq_true hq, hs⟩
  | false =>
    rw [hq] at hs
    dsimp only [cond] at hs
    split at hs
    · split at hs
      · cases hs
      · cases hs
    · split at hs
      · split at hs
        · cases hs
        · cases hs
      · cases hs
theorem qcall_prim {own ix c n t : Nat} {sp : Bool} (h : qcall own ix c n t sp = true) (hc : 1000 ≤ c) : Cond.methodLink (qOn own) ix (qPn c) ∈ qTs ∧ ((c = 1000 ∧ t = 2) ∨ ((c = 1001 ∨ c = 1002 ∨ c = 1003) ∧ t = 1) ∨ ((c = 1004 ∨ c = 1005) ∧ t = 0)) := by
  unfold qcall at h
  rw [Nat.ble_eq_true_of_le hc] at h
  dsimp only at h
  simp only [Bool.and_eq_true] at h
  refine ⟨(qLm_word h.1).1 rfl, ?_⟩
  have h2 := h.2
  split at h2
  · simp only [Bool.and_eq_true] at h2
    exact Or.inl ⟨rfl, Nat.eq_of_beq_eq_true h2.2.2⟩
  · simp only [Bool.and_eq_true] at h2
    exact Or.inr (Or.inl ⟨Or.inl rfl, Nat.eq_of_beq_eq_true h2.2⟩)
  · simp only [Bool.and_eq_true] at h2
    exact Or.inr (Or.inl ⟨Or.inr (Or.inl rfl), Nat.eq_of_beq_eq_true h2.2⟩)
  · simp only [Bool.and_eq_true] at h2
    exact Or.inr (Or.inl ⟨Or.inr (Or.inr rfl), Nat.eq_of_beq_eq_true h2.2⟩)
  · simp only [Bool.and_eq_true] at h2
    exact Or.inr (Or.inr ⟨Or.inl rfl, Nat.eq_of_beq_eq_true h2.2⟩)
  · simp only [Bool.and_eq_true] at h2
    exact Or.inr (Or.inr ⟨Or.inr rfl, Nat.eq_of_beq_eq_true h2.2⟩)
  · cases h2
theorem qpr_0 {n : Nat} : qpr 1000 n lv st g I J = (match st with
    | .ref _ :: r => if qfs r ≤ 8 then qnx n lv r g I J else none
    | _ => none) := rfl
theorem qpr_1 {n : Nat} : qpr 1001 n lv st g I J = (match st with
    | .int y :: .int x :: r => if qfs r ≤ 8 then qnx n lv (.int (if y < x then y else x) :: r) g I J else none
    | _ => none) := rfl
theorem qpr_2 {n : Nat} : qpr 1002 n lv st g I J = (match st with
    | .int y :: .int x :: r => if qfs r ≤ 8 then qnx n lv (.int (if x < y then y else x) :: r) g I J else none
    | _ => none) := rfl
theorem qpr_3 {n : Nat} : qpr 1003 n lv st g I J = (match st with
    | .int k :: .int dp :: .ref b :: .int sp :: .ref a :: r => match qar g a 100, qar g b 100 with
      | some na, some nb => if (0 ≤ sp.toInt ∧ 0 ≤ dp.toInt ∧ 0 ≤ k.toInt ∧ sp.toInt + k.toInt ≤ na ∧ dp.toInt + k.toInt ≤ nb) ∧ qfs r ≤ 8 then
          qnx n lv r g (va_up I b (va_cpy (I a) (I b) sp.toNatClampNeg dp.toNatClampNeg k.toNatClampNeg)) J else none
      | _, _ => none
    | _ => none) := rfl
theorem qpr_4 {n : Nat} : qpr 1004 n lv st g I J = (match st with
    | .ref o :: r => if 1 ≤ o ∧ o ≤ 3 ∧ qfs r ≤ 8 then qnx n lv (.int (Int32.ofNat (qstr o).length) :: r) g I J else none
    | _ => none) := rfl
theorem qpr_5 {n : Nat} : qpr 1005 n lv st g I J = (match st with
    | .int i :: .ref o :: r => if 1 ≤ o ∧ o ≤ 3 ∧ qfs r ≤ 8 then
        (if qix i (qstr o).length then qnx n lv (.int (Int32.ofNat ((qstr o).getD i.toNatClampNeg 0)) :: r) g I J else none) else none
    | _ => none) := rfl
set_option maxRecDepth 100000 in
theorem qs_primI (M : qMx p s mI args meth c m X) {ix len a b t : Nat} {pc1 : Nat} {lv1 st1 : List Value} {g1 : qG} {I1 : qI} {J1 : qJ} (hx : qP m pc = some (.invokespecial ix, len, a, b, t)) (hR : 6 ≤ R.frames ∧ 200 ≤ R.locals) (hL : qLs X (qML m) lv ls) (hH : qHp X g I J H) (hlo : ∀ z ∈ locs, xB X ≤ z.base)
    (hs : qcl (.invokespecial ix, len, a, b, t) (pc + len) lv st g I J = some (.inl (pc1, lv1, st1, g1, I1, J1)))
    (k : ∀ ls1 H1 locs1, qLs X (qML m) lv1 ls1 → qHp X g1 I1 J1 H1 → (∀ z ∈ locs1, xB X ≤ z.base) → W p l e R s mI args below meth c H1 locs1 (cells + (g1.2.2.1 - g.2.2.1)) (slots + (g1.2.2.2 - g.2.2.2)) Qf (F0 mI pc1 ls1 (st1.map (qv X)))) : W p l e R s mI args below meth c H locs cells slots Qf (F0 mI pc ls (st.map (qv X))) := by
  obtain ⟨hx0, hb, hml, hown, hts, hcx, hnm⟩ := M
  have hd := qdec hx
  have hk := qlinks hx
  unfold qlk at hk
  dsimp only at hk hd
  simp only [Bool.and_eq_true] at hk
  obtain ⟨hl, ht, hk⟩ := hk
  obtain rfl := Nat.eq_of_beq_eq_true hl
  obtain rfl := Nat.eq_of_beq_eq_true ht
  have hp9 := qcl_prim hs
  clear hs
  obtain ⟨ha, hs⟩ := hp9
  obtain ⟨hlink, hwh⟩ := qcall_prim hk ha
  rcases hwh with ⟨rfl, -⟩ | ⟨-, h⟩ | ⟨-, h⟩
  · rw [qpr_0] at hs
    split at hs
    · rename_i o r
      split at hs
      · rename_i hr
        cases hs
        have k := k ls H locs hL hH hlo
        simp only [Nat.sub_self, Nat.add_zero] at k
        refine W.objInit hx0 hb hown (hts _ hlink) (hts _ (qTs_mem (i := 151) rfl rfl)) (hts _ (qTs_mem (i := 152) rfl rfl)) rfl (by rw [hml]; exact hL.size) rfl hd (by omega) ?_ k
        show 2 * 0 + _ + 12 ≤ _
        rw [qfs_map]
        omega
      · cases hs
    · cases hs
  · cases h
  · cases h
set_option maxRecDepth 100000 in
theorem qs_primS (M : qMx p s mI args meth c m X) {ix len a b t : Nat} {pc1 : Nat} {lv1 st1 : List Value} {g1 : qG} {I1 : qI} {J1 : qJ} (hx : qP m pc = some (.invokestatic ix, len, a, b, t)) (hR : 6 ≤ R.frames ∧ 200 ≤ R.locals) (hc : cells + (g1.2.2.1 - g.2.2.1) ≤ R.cells) (hsl : slots + (g1.2.2.2 - g.2.2.2) ≤ R.slots) (hL : qLs X (qML m) lv ls) (hH : qHp X g I J H) (hlo : ∀ z ∈ locs, xB X ≤ z.base)
    (hs : qcl (.invokestatic ix, len, a, b, t) (pc + len) lv st g I J = some (.inl (pc1, lv1, st1, g1, I1, J1)))
    (k : ∀ ls1 H1 locs1, qLs X (qML m) lv1 ls1 → qHp X g1 I1 J1 H1 → (∀ z ∈ locs1, xB X ≤ z.base) → W p l e R s mI args below meth c H1 locs1 (cells + (g1.2.2.1 - g.2.2.1)) (slots + (g1.2.2.2 - g.2.2.2)) Qf (F0 mI pc1 ls1 (st1.map (qv X)))) : W p l e R s mI args below meth c H locs cells slots Qf (F0 mI pc ls (st.map (qv X))) := by
  obtain ⟨hx0, hb, hml, hown, hts, hcx, hnm⟩ := M
  have hd := qdec hx
  have hk := qlinks hx
  unfold qlk at hk
  dsimp only at hk hd
  simp only [Bool.and_eq_true] at hk
  obtain ⟨hl, ht, hk⟩ := hk
  obtain rfl := Nat.eq_of_beq_eq_true hl
  obtain rfl := Nat.eq_of_beq_eq_true ht
  have hp9 := qcl_prim hs
  clear hs
  obtain ⟨ha, hs⟩ := hp9
  obtain ⟨hlink, hwh⟩ := qcall_prim hk ha
  rcases hwh with ⟨-, h⟩ | ⟨hwh, -⟩ | ⟨-, h⟩
  · cases h
  · rcases hwh with rfl | rfl | rfl
    · rw [qpr_1] at hs
      split at hs
      · rename_i y x r
        split at hs
        · rename_i hr
          cases hs
          have k := k ls H locs hL hH hlo
          simp only [Nat.sub_self, Nat.add_zero] at k hc hsl
          exact va_mmin hx0 hb (by rw [hml]; exact hL.size.symm) hown (hts _ hlink) (hts _ (qTs_mem (i := 627) rfl rfl)) (hts _ (qTs_mem (i := 139) rfl rfl)) (hts _ (qTs_mem (i := 628) rfl rfl)) (by omega) (by rw [qfs_map]; omega) hc hsl hd k
        · cases hs
      · cases hs
    · rw [qpr_2] at hs
      split at hs
      · rename_i y x r
        split at hs
        · rename_i hr
          cases hs
          have k := k ls H locs hL hH hlo
          simp only [Nat.sub_self, Nat.add_zero] at k hc hsl
          exact va_mmax hx0 hb (by rw [hml]; exact hL.size.symm) hown (hts _ hlink) (hts _ (qTs_mem (i := 657) rfl rfl)) (hts _ (qTs_mem (i := 139) rfl rfl)) (hts _ (qTs_mem (i := 658) rfl rfl)) (by omega) (by rw [qfs_map]; omega) hc hsl hd k
        · cases hs
      · cases hs
    · rw [qpr_3] at hs
      split at hs
      · rename_i n dp b9 sp a9 r
        split at hs
        · rename_i na nb hna hnb
          split at hs
          · rename_i hr
            obtain ⟨⟨r1, r2, r3, r4, r5⟩, r6⟩ := hr
            cases hs
            obtain ⟨a1, a2, a3, a4⟩ := hH.arr (qar_k hna) (by decide) (by decide)
            obtain ⟨b1, b2, b3, b4⟩ := hH.arr (qar_k hnb) (by decide) (by decide)
            obtain ⟨u1, u2⟩ := qnn r1
            obtain ⟨v1, v2⟩ := qnn r2
            obtain ⟨w1, w2⟩ := qnn r3
            have hnat : nativeFrameWords "java/lang/System" "arraycopy" 5 ≤ 100 := by decide +kernel
            refine qput_copy hx0 hb (by rw [hml]; exact hL.size.symm) hown (hts _ hlink) (hts _ (qTs_mem (i := 570) rfl rfl)) (hts _ (qTs_mem (i := 569) rfl rfl)) (hts _ (qTs_mem (i := 138) rfl rfl)) (qtys_A (t := 0) hcx rfl) (qtys_A (t := 0) hcx rfl) a4 b4 u1 v1 w1 (by omega) (by omega) (by omega) (by rw [qfs_map]; omega) hd (fun H1 locs1 h1 h2 h3 h4 => ?_)
            have k := k ls H1 locs1 hL (hH.set (qar_k hnb) b1 ⟨rfl, rfl⟩ (fun _ _ => rfl) (fun y hy => va_up_ne _ _ hy) (fun _ _ => rfl) (by
              rw [qce_a (by decide)]
              unfold qca
              rw [va_up_self]
              exact h1) h2 h3) (fun z hz => by
                rcases h4 z hz with h | h
                · exact hlo z h
                · rw [h]; exact qrho_le b1)
            simp only [Nat.sub_self, Nat.add_zero] at k
            exact k
          · cases hs
        · cases hs
      · cases hs
  · cases h
theorem qstr_cx {X : qX} {s : State} {args : Array Value} (hcx : qCx X s) (hH : qHp X g I J H) (hts : ∀ w ∈ qTs, w.before args s = true) : ∀ U : State, U.heap = H → s.WarmedH U.vm → qSM X U := by
  intro U hU hW
  refine ⟨fun q hq => by rw [hU]; exact hH.2.1 q hq, ?_, hcx.warm hW⟩
  rw [hU]
  have := hH.1.1
  have := hH.1.2
  omega
theorem qSM_blind {X : qX} {as : List Value} : FrameBlind (va_Pc as (qSM X)) := by
  intro a U g mk h
  exact ⟨h.1, h.2.1, h.2.2.1, qCx.same (s := U) (U := U.calling g mk a) rfl h.2.2.2⟩
theorem qstr_recv {X : qX} {s : State} {o : Nat} (hcx : qCx X s) (h1 : 1 ≤ o) (h3 : o ≤ 3) (hH : qHp X g I J H) : ∃ cell : Cell, H[qrho X o]? = some cell ∧ cell.vm.isStatics = false ∧ s.vm.findClass "java/lang/String" = some cell.cls := by
  obtain ⟨⟨adV, hs⟩, -⟩ := hcx.2.2.2.2.1
  have h9 := (hs.1 (o - 1) (by omega)).1
  obtain ⟨cell, e1, e2, e3, e4⟩ := h9
  dsimp only at e1 e4
  rw [show o - 1 + 1 = o by omega] at e1 e4
  have e5 : qrho X o = xS X o := if_pos (by omega)
  refine ⟨cell, ?_, e2, e3⟩
  rw [e5, hH.2.1 _ (Nat.not_le.mp e4)]
  exact e1
theorem qgood {w : Cond} (h : w ∈ qTs) : (w.onTables && w.keeps) = true ∨ ∃ ty, w = .arrayClass ty := good_of_word (List.mem_filter.mp h).2
theorem qGoodIn {ws : List Cond} (h : ∀ w ∈ ws, w ∈ qTs) : GoodIn qTs ws := fun w hw => ⟨h w hw, qgood (h w hw)⟩
set_option maxRecDepth 100000 in
theorem qs_primV (M : qMx p s mI args meth c m X) (hSl : qSl l X) (hSc : qSc l X) {ix len a b t : Nat} {pc1 : Nat} {lv1 st1 : List Value} {g1 : qG} {I1 : qI} {J1 : qJ} (hx : qP m pc = some (.invokevirtual ix, len, a, b, t)) (hR : 6 ≤ R.frames ∧ 200 ≤ R.locals) (hL : qLs X (qML m) lv ls) (hH : qHp X g I J H) (hlo : ∀ z ∈ locs, xB X ≤ z.base) (hc : cells ≤ R.cells ∧ slots ≤ R.slots)
    (hs : qcl (.invokevirtual ix, len, a, b, t) (pc + len) lv st g I J = some (.inl (pc1, lv1, st1, g1, I1, J1)))
    (k : ∀ ls1 H1 locs1, qLs X (qML m) lv1 ls1 → qHp X g1 I1 J1 H1 → (∀ z ∈ locs1, xB X ≤ z.base) → W p l e R s mI args below meth c H1 locs1 (cells + (g1.2.2.1 - g.2.2.1)) (slots + (g1.2.2.2 - g.2.2.2)) Qf (F0 mI pc1 ls1 (st1.map (qv X)))) : W p l e R s mI args below meth c H locs cells slots Qf (F0 mI pc ls (st.map (qv X))) := by
  have M0 := M
  obtain ⟨hx0, hb, hml, hown, hts, hcx, hnm⟩ := M
  have hd := qdec hx
  have hk := qlinks hx
  unfold qlk at hk
  dsimp only at hk hd
  simp only [Bool.and_eq_true] at hk
  obtain ⟨hl, ht, hk⟩ := hk
  obtain rfl := Nat.eq_of_beq_eq_true hl
  obtain rfl := Nat.eq_of_beq_eq_true ht
  have hp9 := qcl_prim hs
  clear hs
  obtain ⟨ha, hs⟩ := hp9
  obtain ⟨hlink, hwh⟩ := qcall_prim hk ha
  rcases hwh with ⟨-, h⟩ | ⟨-, h⟩ | ⟨hwh, -⟩
  · cases h
  · cases h
  · rcases hwh with rfl | rfl
    · rw [qpr_4] at hs
      split at hs
      · rename_i o r
        split at hs
        · rename_i hr
          cases hs
          have cb : CallB R s args (qOn (qOw m)) ix yJ0_length_8abf5 cJ0_length_8abf5 1 (some .int) (Cond.code yJ0_length_8abf5 cJ0_length_8abf5 1 (some .int) :: qTs) { frames := 5, cells := 0, slots := 0, locals := 160 } 0 0 0 :=
            callB_of 0 hts (qGoodIn (fun w hw => (List.mem_cons.mp hw).elim (fun e => by rw [e]; exact qTs_mem (i := 1237) rfl rfl) id)) rfl rfl rfl (hts _ (qTs_mem (i := 133) rfl rfl)) (hts _ hlink) (by decide +kernel) ⟨by show 5 + 1 ≤ _; omega, by show 8 + (1 + 11) + 160 ≤ _; omega⟩
          have run := va_runV (As := []) (rest := r.map (qv X)) (b := qrho X o) (C := RJ0) (H := H) (locs := locs) (cells := cells) (slots := slots) (below := below) (meth := meth) (e := e) (g := F0 mI pc ls ((.ref o :: r).map (qv X))) ⟨hx0, hb, hml, hown, hts⟩ (hSl o hr.1 hr.2.1) ⟨cb, hts _ (qTs_mem (i := 1235) rfl rfl), hts _ (qTs_mem (i := 1236) rfl rfl)⟩ ⟨qSM_blind, qstr_recv hcx hr.1 hr.2.1 hH, fun U hU hW => ⟨rfl, qstr_cx hcx hH hts U hU hW⟩⟩ rfl rfl hL.size rfl (lv_room (by rw [qfs_map]; exact hr.2.2)) hd ⟨hc.1, hc.2⟩
          intro T hT Y
          obtain ⟨v, st₀, t9, T', L, h0, Y', hLL, e1, e2, ⟨q1, q2⟩, go⟩ := run T hT Y
          cases q1
          have hT' : T'.heap = H := by rw [e1, q2, h0]
          have k := k ls H (locs ++ L) hL hH (fun z hz => by
            rcases List.mem_append.mp hz with h | h
            · exact hlo z h
            · exact absurd (hLL z h) id)
          simp only [Nat.sub_self, Nat.add_zero] at k
          obtain ⟨t2, a1, b1⟩ := k T' hT' Y'
          exact ⟨t2, go t2 a1, b1⟩
        · cases hs
      · cases hs
    · rw [qpr_5] at hs
      split at hs
      · rename_i i o r
        split at hs
        · rename_i hr
          split at hs
          · rename_i hi
            cases hs
            have cb : CallB R s args (qOn (qOw m)) ix yJ0_charAt_5068e cJ0_charAt_5068e 2 (some .char) (Cond.code yJ0_charAt_5068e cJ0_charAt_5068e 2 (some .char) :: qTs) { frames := 5, cells := 0, slots := 0, locals := 160 } 0 0 1 :=
              callB_of 1 hts (qGoodIn (fun w hw => (List.mem_cons.mp hw).elim (fun e => by rw [e]; exact qTs_mem (i := 1247) rfl rfl) id)) rfl rfl rfl (hts _ (qTs_mem (i := 133) rfl rfl)) (hts _ hlink) (by decide +kernel) ⟨by show 5 + 1 ≤ _; omega, by show 8 + (2 + 11) + 160 ≤ _; omega⟩
            have run := va_runV (As := [.int i]) (rest := r.map (qv X)) (b := qrho X o) (C := RJ0) (H := H) (locs := locs) (cells := cells) (slots := slots) (below := below) (meth := meth) (e := e) (g := F0 mI pc ls ((.int i :: .ref o :: r).map (qv X))) ⟨hx0, hb, hml, hown, hts⟩ (hSc o i hr.1 hr.2.1 hi) ⟨cb, hts _ (qTs_mem (i := 1245) rfl rfl), hts _ (qTs_mem (i := 1246) rfl rfl)⟩ ⟨qSM_blind, qstr_recv hcx hr.1 hr.2.1 hH, fun U hU hW => ⟨rfl, qstr_cx hcx hH hts U hU hW⟩⟩ rfl rfl hL.size rfl (lv_room (by rw [qfs_map]; exact hr.2.2)) hd ⟨hc.1, hc.2⟩
            intro T hT Y
            obtain ⟨v, st₀, t9, T', L, h0, Y', hLL, e1, e2, ⟨q1, q2⟩, go⟩ := run T hT Y
            cases q1
            have hT' : T'.heap = H := by rw [e1, q2, h0]
            have k := k ls H (locs ++ L) hL hH (fun z hz => by
              rcases List.mem_append.mp hz with h | h
              · exact hlo z h
              · exact absurd (hLL z h) id)
            simp only [Nat.sub_self, Nat.add_zero] at k
            obtain ⟨t2, a1, b1⟩ := k T' hT' Y'
            exact ⟨t2, go t2 a1, b1⟩
          · cases hs
        · cases hs
      · cases hs
set_option maxHeartbeats 4000000 in
set_option maxRecDepth 100000 in
theorem qstep_snd (M : qMx p s mI args meth c m X) (hSl : qSl l X) (hSc : qSc l X) {x : qE} {pc1 : Nat} {lv1 st1 : List Value} {g1 : qG} {I1 : qI} {J1 : qJ} (hx : qP m pc = some x) (hs : qstep x pc lv st g I J = some (.inl (pc1, lv1, st1, g1, I1, J1))) (hR : 6 ≤ R.frames ∧ 200 ≤ R.locals) (hc : cells + (g1.2.2.1 - g.2.2.1) ≤ R.cells) (hsl : slots + (g1.2.2.2 - g.2.2.2) ≤ R.slots) (hL : qLs X (qML m) lv ls) (hH : qHp X g I J H) (hlo : ∀ z ∈ locs, xB X ≤ z.base)
    (k : ∀ ls1 H1 locs1, qLs X (qML m) lv1 ls1 → qHp X g1 I1 J1 H1 → (∀ z ∈ locs1, xB X ≤ z.base) → W p l e R s mI args below meth c H1 locs1 (cells + (g1.2.2.1 - g.2.2.1)) (slots + (g1.2.2.2 - g.2.2.2)) Qf (F0 mI pc1 ls1 (st1.map (qv X)))) : W p l e R s mI args below meth c H locs cells slots Qf (F0 mI pc ls (st.map (qv X))) := by
  have M9 := M
  obtain ⟨hx0, hb, hml, hown, hts, hcx, hnm⟩ := M9
  have hd := qdec hx
  have hk := qlinks hx
  obtain ⟨i, len, a, b, t⟩ := x
  unfold qstep at hs
  dsimp only at hs hd
  split at hs
  · -- iconst
    cases hs
    unfold qlk at hk
    dsimp only at hk
    obtain rfl := Nat.eq_of_beq_eq_true hk
    have k := k ls H locs hL hH hlo
    simp only [Nat.sub_self, Nat.add_zero] at k
    exact lv_iconst hx0 hb hd rfl k
  · -- bipush
    cases hs
    unfold qlk at hk
    dsimp only at hk
    obtain rfl := Nat.eq_of_beq_eq_true hk
    have k := k ls H locs hL hH hlo
    simp only [Nat.sub_self, Nat.add_zero] at k
    exact lv_bipush hx0 hb hd rfl k
  · -- sipush
    cases hs
    unfold qlk at hk
    dsimp only at hk
    obtain rfl := Nat.eq_of_beq_eq_true hk
    have k := k ls H locs hL hH hlo
    simp only [Nat.sub_self, Nat.add_zero] at k
    exact lv_sipush hx0 hb hd rfl k
  · -- lconst
    cases hs
    unfold qlk at hk
    dsimp only at hk
    obtain rfl := Nat.eq_of_beq_eq_true hk
    have k := k ls H locs hL hH hlo
    simp only [Nat.sub_self, Nat.add_zero] at k
    exact lv_lconst hx0 hb hd rfl k
  · -- aconst_null
    cases hs
    unfold qlk at hk
    dsimp only at hk
    obtain rfl := Nat.eq_of_beq_eq_true hk
    have k := k ls H locs hL hH hlo
    simp only [Nat.sub_self, Nat.add_zero] at k
    exact lv_null hx0 hb hd k
  · -- ldc
    unfold qlk at hk
    dsimp only at hk
    simp only [Bool.and_eq_true] at hk
    obtain ⟨hl9, hk⟩ := hk
    obtain rfl := Nat.eq_of_beq_eq_true hl9
    split at hs
    · cases hs
      have k := k ls H locs hL hH hlo
      simp only [Nat.sub_self, Nat.add_zero] at k
      exact lv_ldc hx0 hb hown (hts _ (qIm_word hk)) hd k
    · rename_i ht
      cases hs
      have k := k ls H locs hL hH hlo
      simp only [Nat.sub_self, Nat.add_zero] at k
      split at hk
      · exact absurd rfl ht
      rename_i hq9
      have hq := hk
      unfold qSm at hq
      simp only [Bool.and_eq_true, Bool.or_eq_true] at hq
      obtain ⟨ho, hq⟩ := hq
      have ho := Nat.eq_of_beq_eq_true ho
      rw [ho] at hown
      obtain ⟨-, s2, s3, s4, -⟩ := hcx.2.2.2.2.1
      rcases hq with ⟨h1, h2⟩ | ⟨h1, h2⟩ | ⟨h1, h2⟩
      · obtain rfl := Nat.eq_of_beq_eq_true h1; obtain rfl := Nat.eq_of_beq_eq_true h2; exact va_ldcS hx0 hb hown s2 hd k
      · obtain rfl := Nat.eq_of_beq_eq_true h1; obtain rfl := Nat.eq_of_beq_eq_true h2; exact va_ldcS hx0 hb hown s3 hd k
      · obtain rfl := Nat.eq_of_beq_eq_true h1; obtain rfl := Nat.eq_of_beq_eq_true h2; exact va_ldcS hx0 hb hown s4 hd k
  · -- ldc_w
    cases hs
    unfold qlk at hk
    dsimp only at hk
    simp only [Bool.and_eq_true] at hk
    obtain ⟨hl9, hk⟩ := hk
    obtain rfl := Nat.eq_of_beq_eq_true hl9
    have k := k ls H locs hL hH hlo
    simp only [Nat.sub_self, Nat.add_zero] at k
    exact lv_ldcw hx0 hb hown (hts _ (qIm_word hk)) hd k
  · -- ldc2_w
    cases hs
    unfold qlk at hk
    dsimp only at hk
    simp only [Bool.and_eq_true] at hk
    obtain ⟨hl9, hk⟩ := hk
    obtain rfl := Nat.eq_of_beq_eq_true hl9
    have k := k ls H locs hL hH hlo
    simp only [Nat.sub_self, Nat.add_zero] at k
    exact lv_ldc2 hx0 hb hown (hts _ (qJm_word hk)) hd k
  · -- iload_n
    obtain ⟨v, hv, h2⟩ := Option.bind_eq_some_iff.mp hs
    cases h2
    unfold qlk at hk
    dsimp only at hk
    obtain rfl := Nat.eq_of_beq_eq_true hk
    have k := k ls H locs hL hH hlo
    simp only [Nat.sub_self, Nat.add_zero] at k
    obtain ⟨q1, q2, q3, q4, q5⟩ := qld_inv hv
    obtain ⟨y, rfl⟩ := q3 rfl
    exact lv_iload_n hx0 hb hd rfl (hL.get q1 q2) k
  · -- iload
    obtain ⟨v, hv, h2⟩ := Option.bind_eq_some_iff.mp hs
    cases h2
    unfold qlk at hk
    dsimp only at hk
    obtain rfl := Nat.eq_of_beq_eq_true hk
    have k := k ls H locs hL hH hlo
    simp only [Nat.sub_self, Nat.add_zero] at k
    obtain ⟨q1, q2, q3, q4, q5⟩ := qld_inv hv
    obtain ⟨y, rfl⟩ := q3 rfl
    exact lv_iload hx0 hb hd (hL.get q1 q2) k
  · -- lload_n
    obtain ⟨v, hv, h2⟩ := Option.bind_eq_some_iff.mp hs
    cases h2
    unfold qlk at hk
    dsimp only at hk
    obtain rfl := Nat.eq_of_beq_eq_true hk
    have k := k ls H locs hL hH hlo
    simp only [Nat.sub_self, Nat.add_zero] at k
    obtain ⟨q1, q2, q3, q4, q5⟩ := qld_inv hv
    obtain ⟨y, rfl⟩ := q4 rfl
    exact lv_lload_n hx0 hb hd rfl (hL.get q1 q2) k
  · -- lload
    obtain ⟨v, hv, h2⟩ := Option.bind_eq_some_iff.mp hs
    cases h2
    unfold qlk at hk
    dsimp only at hk
    obtain rfl := Nat.eq_of_beq_eq_true hk
    have k := k ls H locs hL hH hlo
    simp only [Nat.sub_self, Nat.add_zero] at k
    obtain ⟨q1, q2, q3, q4, q5⟩ := qld_inv hv
    obtain ⟨y, rfl⟩ := q4 rfl
    exact lv_lload hx0 hb hd (hL.get q1 q2) k
  · -- aload_n
    obtain ⟨v, hv, h2⟩ := Option.bind_eq_some_iff.mp hs
    cases h2
    unfold qlk at hk
    dsimp only at hk
    obtain rfl := Nat.eq_of_beq_eq_true hk
    have k := k ls H locs hL hH hlo
    simp only [Nat.sub_self, Nat.add_zero] at k
    obtain ⟨q1, q2, q3, q4, q5⟩ := qld_inv hv
    rcases q5 rfl with ⟨y, rfl⟩ | rfl
    · exact lv_aload_n hx0 hb hd rfl (hL.get q1 q2) k
    · exact lv_aload_nN hx0 hb hd rfl (hL.get q1 q2) k
  · -- aload
    obtain ⟨v, hv, h2⟩ := Option.bind_eq_some_iff.mp hs
    cases h2
    unfold qlk at hk
    dsimp only at hk
    obtain rfl := Nat.eq_of_beq_eq_true hk
    have k := k ls H locs hL hH hlo
    simp only [Nat.sub_self, Nat.add_zero] at k
    obtain ⟨q1, q2, q3, q4, q5⟩ := qld_inv hv
    rcases q5 rfl with ⟨y, rfl⟩ | rfl
    · exact lv_aload hx0 hb hd (hL.get q1 q2) k
    · exact lv_aloadN hx0 hb hd (hL.get q1 q2) k
  · -- istore_n
    split at hs
    · obtain ⟨l1, hv, h2⟩ := Option.bind_eq_some_iff.mp hs
      cases h2
      unfold qlk at hk
      dsimp only at hk
      obtain rfl := Nat.eq_of_beq_eq_true hk
      obtain ⟨l9, g1, g2, g3⟩ := hL.st1 hv
      refine lv_istore_n hx0 hb hd rfl g1 g2 rfl (fun ls' h' => ?_)
      have k := k ls' H locs (g3 ls' h') hH hlo
      simp only [Nat.sub_self, Nat.add_zero] at k
      exact k
    · cases hs
  · -- istore
    split at hs
    · obtain ⟨l1, hv, h2⟩ := Option.bind_eq_some_iff.mp hs
      cases h2
      unfold qlk at hk
      dsimp only at hk
      obtain rfl := Nat.eq_of_beq_eq_true hk
      obtain ⟨l9, g1, g2, g3⟩ := hL.st1 hv
      refine lv_istore hx0 hb hd g1 g2 rfl (fun ls' h' => ?_)
      have k := k ls' H locs (g3 ls' h') hH hlo
      simp only [Nat.sub_self, Nat.add_zero] at k
      exact k
    · cases hs
  · -- lstore_n
    split at hs
    · obtain ⟨l1, hv, h2⟩ := Option.bind_eq_some_iff.mp hs
      cases h2
      unfold qlk at hk
      dsimp only at hk
      obtain rfl := Nat.eq_of_beq_eq_true hk
      obtain ⟨l9, g1, g2, g3⟩ := hL.st2 hv
      refine lv_lstore_n hx0 hb hd rfl g1 g2 rfl (fun ls' h' => ?_)
      have k := k ls' H locs (g3 ls' h') hH hlo
      simp only [Nat.sub_self, Nat.add_zero] at k
      exact k
    · cases hs
  · -- lstore
    split at hs
    · obtain ⟨l1, hv, h2⟩ := Option.bind_eq_some_iff.mp hs
      cases h2
      unfold qlk at hk
      dsimp only at hk
      obtain rfl := Nat.eq_of_beq_eq_true hk
      obtain ⟨l9, g1, g2, g3⟩ := hL.st2 hv
      refine lv_lstore hx0 hb hd g1 g2 rfl (fun ls' h' => ?_)
      have k := k ls' H locs (g3 ls' h') hH hlo
      simp only [Nat.sub_self, Nat.add_zero] at k
      exact k
    · cases hs
  · -- astore_n
    split at hs
    · obtain ⟨l1, hv, h2⟩ := Option.bind_eq_some_iff.mp hs
      cases h2
      unfold qlk at hk
      dsimp only at hk
      obtain rfl := Nat.eq_of_beq_eq_true hk
      obtain ⟨l9, g1, g2, g3⟩ := hL.st1 hv
      refine lv_astore_n hx0 hb hd rfl g1 g2 rfl (fun ls' h' => ?_)
      have k := k ls' H locs (g3 ls' h') hH hlo
      simp only [Nat.sub_self, Nat.add_zero] at k
      exact k
    · obtain ⟨l1, hv, h2⟩ := Option.bind_eq_some_iff.mp hs
      cases h2
      unfold qlk at hk
      dsimp only at hk
      obtain rfl := Nat.eq_of_beq_eq_true hk
      obtain ⟨l9, g1, g2, g3⟩ := hL.st1 hv
      refine lv_astore_nN hx0 hb hd rfl g1 g2 rfl (fun ls' h' => ?_)
      have k := k ls' H locs (g3 ls' h') hH hlo
      simp only [Nat.sub_self, Nat.add_zero] at k
      exact k
    · cases hs
  · -- astore
    split at hs
    · obtain ⟨l1, hv, h2⟩ := Option.bind_eq_some_iff.mp hs
      cases h2
      unfold qlk at hk
      dsimp only at hk
      obtain rfl := Nat.eq_of_beq_eq_true hk
      obtain ⟨l9, g1, g2, g3⟩ := hL.st1 hv
      refine lv_astore hx0 hb hd g1 g2 rfl (fun ls' h' => ?_)
      have k := k ls' H locs (g3 ls' h') hH hlo
      simp only [Nat.sub_self, Nat.add_zero] at k
      exact k
    · obtain ⟨l1, hv, h2⟩ := Option.bind_eq_some_iff.mp hs
      cases h2
      unfold qlk at hk
      dsimp only at hk
      obtain rfl := Nat.eq_of_beq_eq_true hk
      obtain ⟨l9, g1, g2, g3⟩ := hL.st1 hv
      refine lv_astoreN hx0 hb hd g1 g2 rfl (fun ls' h' => ?_)
      have k := k ls' H locs (g3 ls' h') hH hlo
      simp only [Nat.sub_self, Nat.add_zero] at k
      exact k
    · cases hs
  · -- iinc
    split at hs
    · rename_i y hy
      obtain ⟨l1, hv, h2⟩ := Option.bind_eq_some_iff.mp hs
      cases h2
      unfold qlk at hk
      dsimp only at hk
      obtain rfl := Nat.eq_of_beq_eq_true hk
      obtain ⟨l9, w1, w2, w3⟩ := hL
      obtain ⟨g2, g3⟩ := qst1_has w2 w3 hv
      obtain ⟨k9, hk9⟩ := List.getElem?_of_mem (w3 _ _ hy rfl)
      refine lv_iinc hx0 hb hd w1 hk9 rfl g2 rfl (fun ls' h' => ?_)
      have k := k ls' H locs (g3 ls' h') hH hlo
      simp only [Nat.sub_self, Nat.add_zero] at k
      exact k
    · cases hs
  · -- i2l
    split at hs
    · cases hs
      unfold qlk at hk
      dsimp only at hk
      obtain rfl := Nat.eq_of_beq_eq_true hk
      have k := k ls H locs hL hH hlo
      simp only [Nat.sub_self, Nat.add_zero] at k
      exact lv_i2l hx0 hb hd rfl k
    · cases hs
  · -- l2i
    split at hs
    · cases hs
      unfold qlk at hk
      dsimp only at hk
      obtain rfl := Nat.eq_of_beq_eq_true hk
      have k := k ls H locs hL hH hlo
      simp only [Nat.sub_self, Nat.add_zero] at k
      exact lv_l2i hx0 hb hd rfl k
    · cases hs
  · -- i2b
    split at hs
    · cases hs
      unfold qlk at hk
      dsimp only at hk
      obtain rfl := Nat.eq_of_beq_eq_true hk
      have k := k ls H locs hL hH hlo
      simp only [Nat.sub_self, Nat.add_zero] at k
      exact lv_i2b hx0 hb hd rfl k
    · cases hs
  · -- lneg
    split at hs
    · cases hs
      unfold qlk at hk
      dsimp only at hk
      obtain rfl := Nat.eq_of_beq_eq_true hk
      have k := k ls H locs hL hH hlo
      simp only [Nat.sub_self, Nat.add_zero] at k
      exact lv_lneg hx0 hb hd k
    · cases hs
  · -- lcmp
    split at hs
    · cases hs
      unfold qlk at hk
      dsimp only at hk
      obtain rfl := Nat.eq_of_beq_eq_true hk
      have k := k ls H locs hL hH hlo
      simp only [Nat.sub_self, Nat.add_zero] at k
      exact W.lcmp hx0 hb hd k
    · cases hs
  · -- dup
    split at hs
    · split at hs
      · cases hs
        unfold qlk at hk
        dsimp only at hk
        obtain rfl := Nat.eq_of_beq_eq_true hk
        have k := k ls H locs hL hH hlo
        simp only [Nat.sub_self, Nat.add_zero] at k
        exact lv_dup hx0 hb hd (by rw [qv_cat, ← qcat_eq]; assumption) k
      · cases hs
    · cases hs
  · -- pop
    split at hs
    · split at hs
      · cases hs
        unfold qlk at hk
        dsimp only at hk
        obtain rfl := Nat.eq_of_beq_eq_true hk
        have k := k ls H locs hL hH hlo
        simp only [Nat.sub_self, Nat.add_zero] at k
        exact lv_pop hx0 hb hd (by rw [qv_cat, ← qcat_eq]; assumption) k
      · cases hs
    · cases hs
  · -- dup2
    split at hs
    · split at hs
      · rename_i e1 e2
        cases hs
        unfold qlk at hk
        dsimp only at hk
        obtain rfl := Nat.eq_of_beq_eq_true hk
        have k := k ls H locs hL hH hlo
        simp only [Nat.sub_self, Nat.add_zero] at k
        exact lv_dup2_11 hx0 hb hd (by rw [qv_cat, ← qcat_eq]; exact e1) (by rw [qv_cat, ← qcat_eq]; exact e2) k
      · cases hs
    · cases hs
  · -- goto
    cases hs
    unfold qlk at hk
    dsimp only at hk
    simp only [Bool.and_eq_true, decide_eq_true_eq] at hk
    obtain ⟨hl9, ht⟩ := hk
    obtain rfl := Nat.eq_of_beq_eq_true hl9
    have k := k ls H locs hL hH hlo
    simp only [Nat.sub_self, Nat.add_zero] at k
    exact lv_goto hx0 hb hd ht k
  · -- ifCond
    unfold qlk at hk
    dsimp only at hk
    simp only [Bool.and_eq_true, decide_eq_true_eq] at hk
    obtain ⟨hl9, ht⟩ := hk
    obtain rfl := Nat.eq_of_beq_eq_true hl9
    refine qs_ifCond hx0 hb hd ht hs (fun f hf e1 e2 => ?_)
    subst hf
    dsimp only at e1 e2 ⊢
    subst e1
    cases e2
    have k := k ls H locs hL hH hlo
    simp only [Nat.sub_self, Nat.add_zero] at k
    exact k
  · -- if_icmp
    unfold qlk at hk
    dsimp only at hk
    simp only [Bool.and_eq_true, decide_eq_true_eq] at hk
    obtain ⟨hl9, ht⟩ := hk
    obtain rfl := Nat.eq_of_beq_eq_true hl9
    refine qs_if_icmp hx0 hb hd ht hs (fun f hf e1 e2 => ?_)
    subst hf
    dsimp only at e1 e2 ⊢
    subst e1
    cases e2
    have k := k ls H locs hL hH hlo
    simp only [Nat.sub_self, Nat.add_zero] at k
    exact k
  · -- ifnull
    unfold qlk at hk
    dsimp only at hk
    simp only [Bool.and_eq_true, decide_eq_true_eq] at hk
    obtain ⟨hl9, ht⟩ := hk
    obtain rfl := Nat.eq_of_beq_eq_true hl9
    split at hs
    · cases hs
      have k := k ls H locs hL hH hlo
      simp only [Nat.sub_self, Nat.add_zero] at k
      exact lv_ifnullN hx0 hb hd ht k
    · cases hs
      have k := k ls H locs hL hH hlo
      simp only [Nat.sub_self, Nat.add_zero] at k
      exact lv_ifnull hx0 hb hd k
    · cases hs
  · -- ifnonnull
    unfold qlk at hk
    dsimp only at hk
    simp only [Bool.and_eq_true, decide_eq_true_eq] at hk
    obtain ⟨hl9, ht⟩ := hk
    obtain rfl := Nat.eq_of_beq_eq_true hl9
    split at hs
    · cases hs
      have k := k ls H locs hL hH hlo
      simp only [Nat.sub_self, Nat.add_zero] at k
      exact lv_ifnonnullN hx0 hb hd k
    · cases hs
      have k := k ls H locs hL hH hlo
      simp only [Nat.sub_self, Nat.add_zero] at k
      exact lv_ifnonnull hx0 hb hd ht k
    · cases hs
  · -- tableswitch
    split at hs
    · obtain ⟨k2, hk2, h2⟩ := Option.bind_eq_some_iff.mp hs
      cases h2
      have k := k ls H locs hL hH hlo
      simp only [Nat.sub_self, Nat.add_zero] at k
      unfold qsw at hk2
      split at hk2
      · rename_i ho
        obtain ⟨d9, e1, e2⟩ := qtb_inv hk2
        cases e1
        exact lv_tableOut hx0 hb hd ho e2 k
      · rename_i ho
        obtain ⟨d9, e1, e2⟩ := qtb_inv hk2
        exact lv_tableIn hx0 hb hd (fun h => ho (Or.inl h)) (fun h => ho (Or.inr h)) e1 e2 k
    · cases hs
  · -- lookupswitch
    split at hs
    · obtain ⟨k2, hk2, h2⟩ := Option.bind_eq_some_iff.mp hs
      cases h2
      have k := k ls H locs hL hH hlo
      simp only [Nat.sub_self, Nat.add_zero] at k
      obtain ⟨d9, e1, e2⟩ := qtb_inv hk2
      cases e1
      exact lv_lookup hx0 hb hd hk rfl e2 k
    · cases hs
  · -- getfield
    split at hs
    · obtain ⟨v, hv, h2⟩ := Option.bind_eq_some_iff.mp hs
      cases h2
      have k := k ls H locs hL hH hlo
      simp only [Nat.sub_self, Nat.add_zero] at k
      exact qs_getfield M hx hH hv k
    · cases hs
  · -- putfield
    exact qs_pf M hx hL hH hlo hs k
  · -- arraylength
    split at hs
    · split at hs
      · rename_i hk9
        generalize hq : Nat.ble 100 _ = bq at hs
        cases bq
        · cases hs
        · cases hs
          unfold qlk at hk
          dsimp only at hk
          obtain rfl := Nat.eq_of_beq_eq_true hk
          have k := k ls H locs hL hH hlo
          simp only [Nat.sub_self, Nat.add_zero] at k
          exact qs_alen M hd hH hk9 (Nat.le_of_ble_eq_true hq) k
      · cases hs
    · cases hs
  · -- iaload
    split at hs
    · split at hs
      · rename_i hk9
        generalize hq : (qix _ _ && (Nat.beq _ 100 || Nat.beq _ 110)) = bq at hs
        cases bq
        · cases hs
        · cases hs
          simp only [Bool.and_eq_true, Bool.or_eq_true] at hq
          unfold qlk at hk
          dsimp only at hk
          obtain rfl := Nat.eq_of_beq_eq_true hk
          have k := k ls H locs hL hH hlo
          simp only [Nat.sub_self, Nat.add_zero] at k
          exact qs_iaload M hb hd hH hk9 (hq.2.elim (fun h => Or.inl (Nat.eq_of_beq_eq_true h)) (fun h => Or.inr (Nat.eq_of_beq_eq_true h))) hq.1 k
      · cases hs
    · cases hs
  · -- baload
    split at hs
    · split at hs
      · rename_i hk9
        generalize hq : qix _ _ = bq at hs
        cases bq
        · cases hs
        · cases hs
          unfold qlk at hk
          dsimp only at hk
          obtain rfl := Nat.eq_of_beq_eq_true hk
          have k := k ls H locs hL hH hlo
          simp only [Nat.sub_self, Nat.add_zero] at k
          exact qs_baload M hd hH (qar_k hk9) hq k
      · cases hs
    · cases hs
  · -- laload
    split at hs
    · split at hs
      · rename_i hk9
        generalize hq : qix _ _ = bq at hs
        cases bq
        · cases hs
        · cases hs
          unfold qlk at hk
          dsimp only at hk
          obtain rfl := Nat.eq_of_beq_eq_true hk
          have k := k ls H locs hL hH hlo
          simp only [Nat.sub_self, Nat.add_zero] at k
          exact qs_laload M hd hH (qar_k hk9) hq k
      · cases hs
    · cases hs
  · -- aaload
    split at hs
    · split at hs
      · rename_i hk9
        generalize hq : (qix _ _ && (Nat.beq _ 103 || (Nat.beq _ 104 || Nat.beq _ 105))) = bq at hs
        cases bq
        · cases hs
        · cases hs
          simp only [Bool.and_eq_true, Bool.or_eq_true] at hq
          unfold qlk at hk
          dsimp only at hk
          obtain rfl := Nat.eq_of_beq_eq_true hk
          have k := k ls H locs hL hH hlo
          simp only [Nat.sub_self, Nat.add_zero] at k
          exact qs_aaload M hd hH hk9 (hq.2.imp (fun h => Nat.eq_of_beq_eq_true h) (fun h => h.imp (fun h => Nat.eq_of_beq_eq_true h) (fun h => Nat.eq_of_beq_eq_true h))) hq.1 k
      · cases hs
    · cases hs
  · -- iastore
    split at hs
    · split at hs
      · rename_i hk9
        generalize hq : qix _ _ = bq at hs
        cases bq
        · cases hs
        · cases hs
          unfold qlk at hk
          dsimp only at hk
          obtain rfl := Nat.eq_of_beq_eq_true hk
          refine qs_iastore M hd hH hlo (qar_k hk9) hq (fun H1 locs1 h1 h2 => ?_)
          have k := k ls H1 locs1 hL h1 h2
          simp only [Nat.sub_self, Nat.add_zero] at k
          exact k
      · cases hs
    · cases hs
  · -- bastore
    split at hs
    · split at hs
      · rename_i hk9
        generalize hq : qix _ _ = bq at hs
        cases bq
        · cases hs
        · cases hs
          unfold qlk at hk
          dsimp only at hk
          obtain rfl := Nat.eq_of_beq_eq_true hk
          refine qs_bastore M hd hH hlo (qar_k hk9) hq (fun H1 locs1 h1 h2 => ?_)
          have k := k ls H1 locs1 hL h1 h2
          simp only [Nat.sub_self, Nat.add_zero] at k
          exact k
      · cases hs
    · cases hs
  · -- lastore
    split at hs
    · split at hs
      · rename_i hk9
        generalize hq : qix _ _ = bq at hs
        cases bq
        · cases hs
        · cases hs
          unfold qlk at hk
          dsimp only at hk
          obtain rfl := Nat.eq_of_beq_eq_true hk
          refine qs_lastore M hd hH hlo (qar_k hk9) hq (fun H1 locs1 h1 h2 => ?_)
          have k := k ls H1 locs1 hL h1 h2
          simp only [Nat.sub_self, Nat.add_zero] at k
          exact k
      · cases hs
    · cases hs
  · -- aastore
    split at hs
    · split at hs
      · rename_i hk9
        generalize hq : (qix _ _ && ((Nat.beq _ 103 || (Nat.beq _ 104 || Nat.beq _ 105)) && qob g _ (qel _))) = bq at hs
        cases bq
        · cases hs
        · cases hs
          simp only [Bool.and_eq_true, Bool.or_eq_true] at hq
          unfold qlk at hk
          dsimp only at hk
          obtain rfl := Nat.eq_of_beq_eq_true hk
          refine qs_aastore M hd hH hlo hk9 (hq.2.1.imp (fun h => Nat.eq_of_beq_eq_true h) (fun h => h.imp (fun h => Nat.eq_of_beq_eq_true h) (fun h => Nat.eq_of_beq_eq_true h))) hq.2.2 hq.1 (fun H1 locs1 h1 h2 => ?_)
          have k := k ls H1 locs1 hL h1 h2
          simp only [Nat.sub_self, Nat.add_zero] at k
          exact k
      · cases hs
    · cases hs
  · -- new
    generalize hq : Nat.beq a 99 = bq at hs
    cases bq
    · cases hs
      have hlen : len = 3 := by
        unfold qlk at hk
        dsimp only at hk
        simp only [Bool.and_eq_true] at hk
        exact Nat.eq_of_beq_eq_true hk.1
      subst hlen
      have e1 : (qmk a b g).2.2.1 - g.2.2.1 = 1 := Nat.add_sub_cancel_left ..
      have e2 : (qmk a b g).2.2.2 - g.2.2.2 = b := Nat.add_sub_cancel_left ..
      rw [e1] at hc
      rw [e2] at hsl
      refine qs_new M (Or.inr ⟨_, hx⟩) (fun h => by rw [h] at hq; cases hq) hH hc hsl (fun H1 h1 => ?_)
      have k := k ls H1 locs hL h1 hlo
      rw [e1, e2] at k
      exact k
    · dsimp only [cond] at hs
      generalize st.isEmpty = zb at hs
      cases zb <;> cases hs
  · -- newarray
    split at hs
    · split at hs
      · rename_i hv
        split at hs
        · cases hs
          unfold qlk at hk
          dsimp only at hk
          obtain rfl := Nat.eq_of_beq_eq_true hk
          rw [qmk_1] at hc
          rw [qmk_2] at hsl
          refine qs_newarray M (Or.inl ⟨rfl, rfl⟩) hd hv hH hc hsl (fun H1 h1 => ?_)
          have k := k ls H1 locs hL h1 hlo
          rw [qmk_1, qmk_2] at k
          exact k
        · cases hs
          unfold qlk at hk
          dsimp only at hk
          obtain rfl := Nat.eq_of_beq_eq_true hk
          rw [qmk_1] at hc
          rw [qmk_2] at hsl
          refine qs_newarray M (Or.inr (Or.inl ⟨rfl, rfl⟩)) hd hv hH hc hsl (fun H1 h1 => ?_)
          have k := k ls H1 locs hL h1 hlo
          rw [qmk_1, qmk_2] at k
          exact k
        · cases hs
          unfold qlk at hk
          dsimp only at hk
          obtain rfl := Nat.eq_of_beq_eq_true hk
          rw [qmk_1] at hc
          rw [qmk_2] at hsl
          refine qs_newarray M (Or.inr (Or.inr ⟨rfl, rfl⟩)) hd hv hH hc hsl (fun H1 h1 => ?_)
          have k := k ls H1 locs hL h1 hlo
          rw [qmk_1, qmk_2] at k
          exact k
        · cases hs
      · cases hs
    · cases hs
  · -- anewarray
    split at hs
    · split at hs
      · rename_i hv
        cases hs
        have hlen : len = 3 := by
          unfold qlk at hk
          dsimp only at hk
          simp only [Bool.and_eq_true] at hk
          exact Nat.eq_of_beq_eq_true hk.1
        subst hlen
        rw [qmk_1] at hc
        rw [qmk_2] at hsl
        refine qs_anewarray M hx hv hH hc hsl (fun H1 h1 => ?_)
        have k := k ls H1 locs hL h1 hlo
        rw [qmk_1, qmk_2] at k
        exact k
      · cases hs
    · cases hs
  · -- ireturn
    repeat' (first | (split at hs) | (cases hs; done))
    all_goals cases hs
  · -- lreturn
    repeat' (first | (split at hs) | (cases hs; done))
    all_goals cases hs
  · -- areturn
    repeat' (first | (split at hs) | (cases hs; done))
    all_goals cases hs
  · -- return_
    repeat' (first | (split at hs) | (cases hs; done))
    all_goals cases hs
  · -- invokevirtual
    exact qs_primV M hSl hSc hx hR hL hH hlo ⟨by omega, by omega⟩ hs k
  · -- invokespecial
    exact qs_primI M hx hR hL hH hlo hs k
  · -- invokestatic
    exact qs_primS M hx hR hc hsl hL hH hlo hs k
  · -- default
    split at hs
    · obtain ⟨v, hv, h2⟩ := Option.bind_eq_some_iff.mp hs
      cases h2
      have k := k ls H locs hL hH hlo
      simp only [Nat.sub_self, Nat.add_zero] at k
      unfold qi2 at hv
      split at hv
      · cases hv
        unfold qlk at hk
        dsimp only at hk
        obtain rfl := Nat.eq_of_beq_eq_true hk
        exact lv_iadd hx0 hb hd k
      · cases hv
        unfold qlk at hk
        dsimp only at hk
        obtain rfl := Nat.eq_of_beq_eq_true hk
        exact lv_isub hx0 hb hd k
      · cases hv
        unfold qlk at hk
        dsimp only at hk
        obtain rfl := Nat.eq_of_beq_eq_true hk
        exact lv_imul hx0 hb hd k
      · cases hv
        unfold qlk at hk
        dsimp only at hk
        obtain rfl := Nat.eq_of_beq_eq_true hk
        exact lv_iand hx0 hb hd k
      · cases hv
        unfold qlk at hk
        dsimp only at hk
        obtain rfl := Nat.eq_of_beq_eq_true hk
        exact lv_ior hx0 hb hd k
      · split at hv
        · cases hv
        · rename_i h0
          cases hv
          unfold qlk at hk
          dsimp only at hk
          obtain rfl := Nat.eq_of_beq_eq_true hk
          exact lv_idiv hx0 hb hd h0 k
      · split at hv
        · cases hv
        · rename_i h0
          cases hv
          unfold qlk at hk
          dsimp only at hk
          obtain rfl := Nat.eq_of_beq_eq_true hk
          exact lv_irem hx0 hb hd h0 k
      · cases hv
        unfold qlk at hk
        dsimp only at hk
        obtain rfl := Nat.eq_of_beq_eq_true hk
        exact lv_ishl hx0 hb hd k
      · cases hv
        unfold qlk at hk
        dsimp only at hk
        obtain rfl := Nat.eq_of_beq_eq_true hk
        exact lv_ishr hx0 hb hd k
      · cases hv
        unfold qlk at hk
        dsimp only at hk
        obtain rfl := Nat.eq_of_beq_eq_true hk
        exact lv_iushr hx0 hb hd rfl k
      · cases hv
    · obtain ⟨v, hv, h2⟩ := Option.bind_eq_some_iff.mp hs
      cases h2
      have k := k ls H locs hL hH hlo
      simp only [Nat.sub_self, Nat.add_zero] at k
      unfold ql2 at hv
      split at hv
      · cases hv
        unfold qlk at hk
        dsimp only at hk
        obtain rfl := Nat.eq_of_beq_eq_true hk
        exact lv_ladd hx0 hb hd k
      · cases hv
        unfold qlk at hk
        dsimp only at hk
        obtain rfl := Nat.eq_of_beq_eq_true hk
        exact lv_lsub hx0 hb hd k
      · cases hv
        unfold qlk at hk
        dsimp only at hk
        obtain rfl := Nat.eq_of_beq_eq_true hk
        exact lv_lmul hx0 hb hd k
      · cases hv
        unfold qlk at hk
        dsimp only at hk
        obtain rfl := Nat.eq_of_beq_eq_true hk
        exact lv_land hx0 hb hd k
      · cases hv
        unfold qlk at hk
        dsimp only at hk
        obtain rfl := Nat.eq_of_beq_eq_true hk
        exact lv_lor hx0 hb hd k
      · split at hv
        · cases hv
        · rename_i h0
          cases hv
          unfold qlk at hk
          dsimp only at hk
          obtain rfl := Nat.eq_of_beq_eq_true hk
          exact lv_lrem hx0 hb hd h0 k
      · cases hv
    · obtain ⟨v, hv, h2⟩ := Option.bind_eq_some_iff.mp hs
      cases h2
      have k := k ls H locs hL hH hlo
      simp only [Nat.sub_self, Nat.add_zero] at k
      unfold qk2 at hv
      split at hv
      · cases hv
        unfold qlk at hk
        dsimp only at hk
        obtain rfl := Nat.eq_of_beq_eq_true hk
        exact lv_lshl hx0 hb hd rfl k
      · cases hv
        unfold qlk at hk
        dsimp only at hk
        obtain rfl := Nat.eq_of_beq_eq_true hk
        exact lv_lushr hx0 hb hd rfl k
      · cases hv
    · cases hs
end QSTP
