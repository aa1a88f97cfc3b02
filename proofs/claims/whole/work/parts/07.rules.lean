/-! rows of the abstract machine, an instruction each; 'hx': the program's entry, 'hp': the next place -/
section QRULES
variable {d m pc pc' : Nat} {ls st r : List Value} {g : qG} {I : qI} {J : qJ} {Q : qQ}
theorem e_iconst {n : Int} {v : Int32} (hx : qP m pc = some (.iconst n, 1, 0, 0, 0)) (hp : pc + 1 = pc') (hv : Int32.ofInt n = v) (k : qev d m (pc', ls, .int v :: st, g, I, J) Q) : qev d m (pc, ls, st, g, I, J) Q := by
  subst hv hp; exact qev_next hx rfl k
theorem e_bipush {n : Int} {v : Int32} (hx : qP m pc = some (.bipush n, 2, 0, 0, 0)) (hp : pc + 2 = pc') (hv : (Int8.ofInt n).toInt32 = v) (k : qev d m (pc', ls, .int v :: st, g, I, J) Q) : qev d m (pc, ls, st, g, I, J) Q := by
  subst hv hp; exact qev_next hx rfl k
theorem e_sipush {n : Int} {v : Int32} (hx : qP m pc = some (.sipush n, 3, 0, 0, 0)) (hp : pc + 3 = pc') (hv : (Int16.ofInt n).toInt32 = v) (k : qev d m (pc', ls, .int v :: st, g, I, J) Q) : qev d m (pc, ls, st, g, I, J) Q := by
  subst hv hp; exact qev_next hx rfl k
theorem e_ldc {i a : Nat} {v : Int32} (hx : qP m pc = some (.ldc i, 2, a, 0, 0)) (hp : pc + 2 = pc') (hv : Int32.ofNat a = v) (k : qev d m (pc', ls, .int v :: st, g, I, J) Q) : qev d m (pc, ls, st, g, I, J) Q := by
  subst hv hp; exact qev_next hx rfl k
theorem e_ldcw {i a : Nat} {v : Int32} (hx : qP m pc = some (.ldc_w i, 3, a, 0, 0)) (hp : pc + 3 = pc') (hv : Int32.ofNat a = v) (k : qev d m (pc', ls, .int v :: st, g, I, J) Q) : qev d m (pc, ls, st, g, I, J) Q := by
  subst hv hp; exact qev_next hx rfl k
theorem e_lconst {n : Fin 2} {v : Int64} (hx : qP m pc = some (.lconst n, 1, 0, 0, 0)) (hp : pc + 1 = pc') (hv : Int64.ofNat (n : Nat) = v) (k : qev d m (pc', ls, .long v :: st, g, I, J) Q) : qev d m (pc, ls, st, g, I, J) Q := by
  subst hv hp; exact qev_next hx rfl k
theorem e_ldc2 {i a : Nat} {v : Int64} (hx : qP m pc = some (.ldc2_w i, 3, a, 0, 0)) (hp : pc + 3 = pc') (hv : Int64.ofNat a = v) (k : qev d m (pc', ls, .long v :: st, g, I, J) Q) : qev d m (pc, ls, st, g, I, J) Q := by
  subst hv hp; exact qev_next hx rfl k
theorem e_next {x : qE} {ls' st' : List Value} (hx : qP m pc = some x) (hs : qstep x pc ls st g I J = some (.inl (pc', ls', st', g, I, J))) (k : qev d m (pc', ls', st', g, I, J) Q) : qev d m (pc, ls, st, g, I, J) Q := qev_next hx hs k
theorem e_if {c : Jvm.ClassFile.Cond} {o : Int} {t : Nat} {x : Int32} (P : Prop) (hx : qP m pc = some (.ifCond c o, 3, t, 0, 0)) (hp : pc + 3 = pc') (hP : qc1 c x = true ↔ P) (k1 : P → qev d m (t, ls, st, g, I, J) Q) (k2 : ¬ P → qev d m (pc', ls, st, g, I, J) Q) : qev d m (pc, ls, .int x :: st, g, I, J) Q := by
  subst hp
  cases hc : qc1 c x with
  | true => exact qev_next hx (by show (bif qc1 c x then _ else _) = _; rw [hc]; rfl) (k1 (hP.mp hc))
  | false => exact qev_next hx (by show (bif qc1 c x then _ else _) = _; rw [hc]; rfl) (k2 (fun h => Bool.noConfusion (hc.symm.trans (hP.mpr h))))
theorem e_icmp {c : Jvm.ClassFile.Cond} {o : Int} {t : Nat} {x y : Int32} (P : Prop) (hx : qP m pc = some (.if_icmp c o, 3, t, 0, 0)) (hp : pc + 3 = pc') (hP : qc2 c x y = true ↔ P) (k1 : P → qev d m (t, ls, st, g, I, J) Q) (k2 : ¬ P → qev d m (pc', ls, st, g, I, J) Q) : qev d m (pc, ls, .int y :: .int x :: st, g, I, J) Q := by
  subst hp
  cases hc : qc2 c x y with
  | true => exact qev_next hx (by show (bif qc2 c x y then _ else _) = _; rw [hc]; rfl) (k1 (hP.mp hc))
  | false => exact qev_next hx (by show (bif qc2 c x y then _ else _) = _; rw [hc]; rfl) (k2 (fun h => Bool.noConfusion (hc.symm.trans (hP.mpr h))))
theorem e_d {P : Prop} [h : Decidable P] : decide P = true ↔ P := decide_eq_true_iff
theorem e_ifnull {o : Int} {t : Nat} {x : Option Nat} (hx : qP m pc = some (.ifnull o, 3, t, 0, 0)) (hp : pc + 3 = pc') (k1 : x = none → qev d m (t, ls, st, g, I, J) Q) (k2 : ∀ b, x = some b → qev d m (pc', ls, st, g, I, J) Q) : qev d m (pc, ls, va_rf x :: st, g, I, J) Q := by
  subst hp
  cases x with
  | none => exact qev_next hx rfl (k1 rfl)
  | some b => exact qev_next hx rfl (k2 b rfl)
theorem e_ifnonnull {o : Int} {t : Nat} {x : Option Nat} (hx : qP m pc = some (.ifnonnull o, 3, t, 0, 0)) (hp : pc + 3 = pc') (k1 : ∀ b, x = some b → qev d m (t, ls, st, g, I, J) Q) (k2 : x = none → qev d m (pc', ls, st, g, I, J) Q) : qev d m (pc, ls, va_rf x :: st, g, I, J) Q := by
  subst hp
  cases x with
  | none => exact qev_next hx rfl (k2 rfl)
  | some b => exact qev_next hx rfl (k1 b rfl)
theorem e_bin {i : Instr} {x y v : Int32} (hx : qP m pc = some (i, 1, 0, 0, 0)) (hs : qstep (i, 1, 0, 0, 0) pc ls (.int y :: .int x :: st) g I J = (qi2 i x y).bind (fun v => qnx (pc + 1) ls (.int v :: st) g I J)) (hp : pc + 1 = pc') (hv : qi2 i x y = some v) (k : qev d m (pc', ls, .int v :: st, g, I, J) Q) : qev d m (pc, ls, .int y :: .int x :: st, g, I, J) Q := by
  subst hp
  exact qev_next hx (by rw [hs, hv]; rfl) k
theorem e_idiv {x y : Int32} (hx : qP m pc = some (.idiv, 1, 0, 0, 0)) (hp : pc + 1 = pc') (h0 : ¬ y = 0) (k : qev d m (pc', ls, .int (x / y) :: st, g, I, J) Q) : qev d m (pc, ls, .int y :: .int x :: st, g, I, J) Q :=
  e_bin hx rfl hp (if_neg h0) k
theorem e_irem {x y : Int32} (hx : qP m pc = some (.irem, 1, 0, 0, 0)) (hp : pc + 1 = pc') (h0 : ¬ y = 0) (k : qev d m (pc', ls, .int (x - x / y * y) :: st, g, I, J) Q) : qev d m (pc, ls, .int y :: .int x :: st, g, I, J) Q :=
  e_bin hx rfl hp (if_neg h0) k
theorem e_lrem {x y : Int64} (hx : qP m pc = some (.lrem, 1, 0, 0, 0)) (hp : pc + 1 = pc') (h0 : ¬ y = 0) (k : qev d m (pc', ls, .long (x - x / y * y) :: st, g, I, J) Q) : qev d m (pc, ls, .long y :: .long x :: st, g, I, J) Q := by
  subst hp
  refine qev_next hx ?_ k
  show (if y = 0 then none else some (x - x / y * y)).bind _ = _
  rw [if_neg h0]
  rfl
theorem e_getI {ix a b t o : Nat} (hx : qP m pc = some (.getfield ix, 3, a, b, t)) (ht : t = 0 ∨ t = 3) (hp : pc + 3 = pc') (ho : qob g o a = true) (k : qev d m (pc', ls, .int (I o b) :: st, g, I, J) Q) : qev d m (pc, ls, .ref o :: st, g, I, J) Q := by
  subst hp
  refine qev_next hx ?_ k
  show (qgf a b t g I J o).bind _ = _
  unfold qgf
  rw [ho]
  rcases ht with rfl | rfl <;> rfl
theorem e_getJ {ix a b o : Nat} (hx : qP m pc = some (.getfield ix, 3, a, b, 1)) (hp : pc + 3 = pc') (ho : qob g o a = true) (k : qev d m (pc', ls, .long (J o b) :: st, g, I, J) Q) : qev d m (pc, ls, .ref o :: st, g, I, J) Q := by
  subst hp
  refine qev_next hx ?_ k
  show (qgf a b 1 g I J o).bind _ = _
  unfold qgf
  rw [ho]
  rfl
theorem e_getA {ix a b o : Nat} {v : Option Nat} (hx : qP m pc = some (.getfield ix, 3, a, b, 2)) (hp : pc + 3 = pc') (ho : qob g o a = true) (hv : g.2.1 o b = v) (k : qev d m (pc', ls, va_rf v :: st, g, I, J) Q) : qev d m (pc, ls, .ref o :: st, g, I, J) Q := by
  subst hp hv
  refine qev_next hx ?_ k
  show (qgf a b 2 g I J o).bind _ = _
  unfold qgf
  rw [ho]
  rfl
theorem e_putI {ix a b o : Nat} {v : Int32} (hx : qP m pc = some (.putfield ix, 3, a, b, 0)) (hp : pc + 3 = pc') (ho : qob g o a = true) (k : qev d m (pc', ls, st, g, qw I o b v, J) Q) : qev d m (pc, ls, .int v :: .ref o :: st, g, I, J) Q := by
  subst hp
  refine qev_next hx ?_ k
  show (bif qob g o a then _ else _) = _
  rw [ho]
  rfl
theorem e_putZ {ix a b o : Nat} {v : Int32} (hx : qP m pc = some (.putfield ix, 3, a, b, 3)) (hp : pc + 3 = pc') (ho : qob g o a = true) (hv : v = 0 ∨ v = 1) (k : qev d m (pc', ls, st, g, qw I o b v, J) Q) : qev d m (pc, ls, .int v :: .ref o :: st, g, I, J) Q := by
  subst hp
  refine qev_next hx ?_ k
  show (bif qob g o a then _ else _) = _
  rw [ho]
  show (if v = 0 ∨ v = 1 then _ else _) = _
  rw [if_pos hv]
theorem e_putJ {ix a b o : Nat} {v : Int64} (hx : qP m pc = some (.putfield ix, 3, a, b, 1)) (hp : pc + 3 = pc') (ho : qob g o a = true) (k : qev d m (pc', ls, st, g, I, qw J o b v) Q) : qev d m (pc, ls, .long v :: .ref o :: st, g, I, J) Q := by
  subst hp
  refine qev_next hx ?_ k
  show (bif qob g o a then _ else _) = _
  rw [ho]
  rfl
theorem e_putA {ix a b o : Nat} {v : Option Nat} (hx : qP m pc = some (.putfield ix, 3, a, b, 2)) (hp : pc + 3 = pc') (ho : qob g o a = true) (k : qev d m (pc', ls, st, (g.1, qw g.2.1 o b v, g.2.2), I, J) Q) : qev d m (pc, ls, va_rf v :: .ref o :: st, g, I, J) Q := by
  subst hp
  cases v with
  | none =>
    refine qev_next hx ?_ k
    show (bif qob g o a then _ else _) = _
    rw [ho]
    rfl
  | some v =>
    refine qev_next hx ?_ k
    show (bif qob g o a then _ else _) = _
    rw [ho]
    rfl
theorem qix_of {i : Int32} {j n : Nat} (hi : i = nI j) (hj : j < n) (hn : n < 2 ^ 31) : qix i n = true ∧ i.toNatClampNeg = j := by
  subst hi
  refine ⟨decide_eq_true ?_, nI_clamp (Nat.lt_trans hj hn)⟩
  rw [nI_toInt (Nat.lt_trans hj hn)]
  omega
theorem qar_k {o t n : Nat} (h : qar g o t = some n) : g.1 o = some (t, n) := by
  unfold qar at h
  split at h
  · rename_i k n' e
    cases hb : Nat.beq k t with
    | true =>
      rw [hb] at h
      cases h
      rw [e, Nat.eq_of_beq_eq_true hb]
    | false => rw [hb] at h; cases h
  · cases h
theorem e_alen {o k n : Nat} {v : Int32} (hx : qP m pc = some (.arraylength, 1, 0, 0, 0)) (hp : pc + 1 = pc') (ha : g.1 o = some (k, n)) (hk : Nat.ble 100 k = true) (hv : Int32.ofNat n = v) (kk : qev d m (pc', ls, .int v :: st, g, I, J) Q) : qev d m (pc, ls, .ref o :: st, g, I, J) Q := by
  subst hp hv
  refine qev_next hx ?_ kk
  show (match g.1 o with
        | some (k, n) => bif Nat.ble 100 k then qnx (pc + 1) ls (.int (Int32.ofNat n) :: st) g I J else none
        | none => none) = _
  rw [ha]
  dsimp only
  rw [hk]
  rfl
theorem e_iald {o n : Nat} {i : Int32} (j : Nat) (hx : qP m pc = some (.iaload, 1, 0, 0, 0)) (hp : pc + 1 = pc') (ha : g.1 o = some (100, n)) (hi : i = nI j) (hj : j < n) (hn : n < 2 ^ 31) (k : qev d m (pc', ls, .int (I o j) :: st, g, I, J) Q) : qev d m (pc, ls, .int i :: .ref o :: st, g, I, J) Q := by
  subst hp
  obtain ⟨h1, h2⟩ := qix_of hi hj hn
  refine qev_next hx ?_ k
  show (match g.1 o with
        | some (k, n) => bif qix i n && (Nat.beq k 100 || Nat.beq k 110) then qnx (pc + 1) ls (.int (I o i.toNatClampNeg) :: st) g I J else none
        | none => none) = _
  rw [ha, h2]
  dsimp only
  rw [h1]
  rfl
theorem e_sald {o n : Nat} {i : Int32} (j : Nat) (hx : qP m pc = some (.iaload, 1, 0, 0, 0)) (hp : pc + 1 = pc') (ha : g.1 o = some (110, n)) (hi : i = nI j) (hj : j < n) (hn : n < 2 ^ 31) (k : qev d m (pc', ls, .int (I o j) :: st, g, I, J) Q) : qev d m (pc, ls, .int i :: .ref o :: st, g, I, J) Q := by
  subst hp
  obtain ⟨h1, h2⟩ := qix_of hi hj hn
  refine qev_next hx ?_ k
  show (match g.1 o with
        | some (k, n) => bif qix i n && (Nat.beq k 100 || Nat.beq k 110) then qnx (pc + 1) ls (.int (I o i.toNatClampNeg) :: st) g I J else none
        | none => none) = _
  rw [ha, h2]
  dsimp only
  rw [h1]
  rfl
theorem e_bald {o n : Nat} {i : Int32} (j : Nat) (hx : qP m pc = some (.baload, 1, 0, 0, 0)) (hp : pc + 1 = pc') (ha : g.1 o = some (101, n)) (hi : i = nI j) (hj : j < n) (hn : n < 2 ^ 31) (k : qev d m (pc', ls, .int (I o j) :: st, g, I, J) Q) : qev d m (pc, ls, .int i :: .ref o :: st, g, I, J) Q := by
  subst hp
  obtain ⟨h1, h2⟩ := qix_of hi hj hn
  refine qev_next hx ?_ k
  show (match qar g o 101 with
        | some n => bif qix i n then qnx (pc + 1) ls (.int (I o i.toNatClampNeg) :: st) g I J else none
        | none => none) = _
  rw [show qar g o 101 = some n by unfold qar; rw [ha]; rfl, h2]
  dsimp only
  rw [h1]
  rfl
theorem e_lald {o n : Nat} {i : Int32} (j : Nat) (hx : qP m pc = some (.laload, 1, 0, 0, 0)) (hp : pc + 1 = pc') (ha : g.1 o = some (102, n)) (hi : i = nI j) (hj : j < n) (hn : n < 2 ^ 31) (k : qev d m (pc', ls, .long (J o j) :: st, g, I, J) Q) : qev d m (pc, ls, .int i :: .ref o :: st, g, I, J) Q := by
  subst hp
  obtain ⟨h1, h2⟩ := qix_of hi hj hn
  refine qev_next hx ?_ k
  show (match qar g o 102 with
        | some n => bif qix i n then qnx (pc + 1) ls (.long (J o i.toNatClampNeg) :: st) g I J else none
        | none => none) = _
  rw [show qar g o 102 = some n by unfold qar; rw [ha]; rfl, h2]
  dsimp only
  rw [h1]
  rfl
theorem e_aald {o n c : Nat} {i : Int32} {v : Option Nat} (j : Nat) (hx : qP m pc = some (.aaload, 1, 0, 0, 0)) (hp : pc + 1 = pc') (ha : g.1 o = some (c, n)) (hc : (Nat.beq c 103 || (Nat.beq c 104 || Nat.beq c 105)) = true) (hi : i = nI j) (hj : j < n) (hn : n < 2 ^ 31) (hv : g.2.1 o j = v) (k : qev d m (pc', ls, va_rf v :: st, g, I, J) Q) : qev d m (pc, ls, .int i :: .ref o :: st, g, I, J) Q := by
  subst hp hv
  obtain ⟨h1, h2⟩ := qix_of hi hj hn
  refine qev_next hx ?_ k
  show (match g.1 o with
        | some (k, n) => bif qix i n && (Nat.beq k 103 || (Nat.beq k 104 || Nat.beq k 105)) then qnx (pc + 1) ls (va_rf (g.2.1 o i.toNatClampNeg) :: st) g I J else none
        | none => none) = _
  rw [ha, h2]
  dsimp only
  rw [h1, hc]
  rfl
theorem e_iast {o n : Nat} {i v : Int32} (j : Nat) (hx : qP m pc = some (.iastore, 1, 0, 0, 0)) (hp : pc + 1 = pc') (ha : g.1 o = some (100, n)) (hi : i = nI j) (hj : j < n) (hn : n < 2 ^ 31) (k : qev d m (pc', ls, st, g, qw I o j v, J) Q) : qev d m (pc, ls, .int v :: .int i :: .ref o :: st, g, I, J) Q := by
  subst hp
  obtain ⟨h1, h2⟩ := qix_of hi hj hn
  refine qev_next hx ?_ k
  show (match qar g o 100 with
        | some n => bif qix i n then qnx (pc + 1) ls st g (qw I o i.toNatClampNeg v) J else none
        | none => none) = _
  rw [show qar g o 100 = some n by unfold qar; rw [ha]; rfl, h2]
  dsimp only
  rw [h1]
  rfl
theorem e_bast {o n : Nat} {i v : Int32} (j : Nat) (hx : qP m pc = some (.bastore, 1, 0, 0, 0)) (hp : pc + 1 = pc') (ha : g.1 o = some (101, n)) (hi : i = nI j) (hj : j < n) (hn : n < 2 ^ 31) (k : qev d m (pc', ls, st, g, qw I o j v.toInt8.toInt32, J) Q) : qev d m (pc, ls, .int v :: .int i :: .ref o :: st, g, I, J) Q := by
  subst hp
  obtain ⟨h1, h2⟩ := qix_of hi hj hn
  refine qev_next hx ?_ k
  show (match qar g o 101 with
        | some n => bif qix i n then qnx (pc + 1) ls st g (qw I o i.toNatClampNeg v.toInt8.toInt32) J else none
        | none => none) = _
  rw [show qar g o 101 = some n by unfold qar; rw [ha]; rfl, h2]
  dsimp only
  rw [h1]
  rfl
theorem e_last {o n : Nat} {i : Int32} {v : Int64} (j : Nat) (hx : qP m pc = some (.lastore, 1, 0, 0, 0)) (hp : pc + 1 = pc') (ha : g.1 o = some (102, n)) (hi : i = nI j) (hj : j < n) (hn : n < 2 ^ 31) (k : qev d m (pc', ls, st, g, I, qw J o j v) Q) : qev d m (pc, ls, .long v :: .int i :: .ref o :: st, g, I, J) Q := by
  subst hp
  obtain ⟨h1, h2⟩ := qix_of hi hj hn
  refine qev_next hx ?_ k
  show (match qar g o 102 with
        | some n => bif qix i n then qnx (pc + 1) ls st g I (qw J o i.toNatClampNeg v) else none
        | none => none) = _
  rw [show qar g o 102 = some n by unfold qar; rw [ha]; rfl, h2]
  dsimp only
  rw [h1]
  rfl
theorem e_aast {o n c v : Nat} {i : Int32} (j : Nat) (hx : qP m pc = some (.aastore, 1, 0, 0, 0)) (hp : pc + 1 = pc') (ha : g.1 o = some (c, n)) (hc : (Nat.beq c 103 || (Nat.beq c 104 || Nat.beq c 105)) = true) (ho : qob g v (qel c) = true) (hi : i = nI j) (hj : j < n) (hn : n < 2 ^ 31) (k : qev d m (pc', ls, st, (g.1, qw g.2.1 o j (some v), g.2.2), I, J) Q) : qev d m (pc, ls, .ref v :: .int i :: .ref o :: st, g, I, J) Q := by
  subst hp
  obtain ⟨h1, h2⟩ := qix_of hi hj hn
  refine qev_next hx ?_ k
  show (match g.1 o with
        | some (k, n) => bif qix i n && ((Nat.beq k 103 || (Nat.beq k 104 || Nat.beq k 105)) && qob g v (qel k)) then qnx (pc + 1) ls st (g.1, qw g.2.1 o i.toNatClampNeg (some v), g.2.2) I J else none
        | none => none) = _
  rw [ha, h2]
  dsimp only
  rw [h1, hc, ho]
  rfl
theorem e_newa {ty : Jvm.ClassFile.ArrayType} {v : Int32} (t n : Nat) (hx : qP m pc = some (.newarray ty, 2, 0, 0, 0)) (ht : (ty = .int ∧ t = 100) ∨ (ty = .byte ∧ t = 101) ∨ (ty = .long ∧ t = 102)) (hp : pc + 2 = pc') (hv : v = nI n) (hn : n ≤ 1000000) (k : qev d m (pc', ls, .ref g.2.2.1 :: st, qmk t n g, qmI g I, qmJ g J) Q) : qev d m (pc, ls, .int v :: st, g, I, J) Q := by
  subst hp hv
  have h1 : (nI n).toInt = (n : Int) := nI_toInt (by omega)
  have h2 : (nI n).toNatClampNeg = n := nI_clamp (by omega)
  refine qev_next hx ?_ k
  show (if 0 ≤ (nI n).toInt ∧ (nI n).toInt ≤ 1000000 then _ else _) = _
  rw [if_pos (by rw [h1]; omega), h2]
  rcases ht with ⟨rfl, rfl⟩ | ⟨rfl, rfl⟩ | ⟨rfl, rfl⟩ <;> rfl
theorem e_anew {ix a : Nat} {v : Int32} (n : Nat) (hx : qP m pc = some (.anewarray ix, 3, a, 0, 0)) (hp : pc + 3 = pc') (hv : v = nI n) (hn : n ≤ 1000000) (k : qev d m (pc', ls, .ref g.2.2.1 :: st, qmk a n g, qmI g I, qmJ g J) Q) : qev d m (pc, ls, .int v :: st, g, I, J) Q := by
  subst hp hv
  have h1 : (nI n).toInt = (n : Int) := nI_toInt (by omega)
  have h2 : (nI n).toNatClampNeg = n := nI_clamp (by omega)
  refine qev_next hx ?_ k
  show (if 0 ≤ (nI n).toInt ∧ (nI n).toInt ≤ 1000000 then _ else _) = _
  rw [if_pos (by rw [h1]; omega), h2]
theorem e_new {ix a b : Nat} (hx : qP m pc = some (.new ix, 3, a, b, 0)) (hp : pc + 3 = pc') (ha : Nat.beq a 99 = false) (k : qev d m (pc', ls, .ref g.2.2.1 :: st, qmk a b g, qmI g I, qmJ g J) Q) : qev d m (pc, ls, st, g, I, J) Q := by
  subst hp
  refine qev_next hx ?_ k
  show (bif Nat.beq a 99 then _ else _) = _
  rw [ha]
  rfl
theorem e_iret {v : Int32} (hx : qP m pc = some (.ireturn, 1, 0, 0, 0)) (k : Q (some (.int v)) g I J) : qev d m (pc, ls, [.int v], g, I, J) Q := qev_ret hx rfl k
theorem e_zret {v : Int32} (hx : qP m pc = some (.ireturn, 1, 0, 0, 3)) (hv : v = 0 ∨ v = 1) (k : Q (some (.int v)) g I J) : qev d m (pc, ls, [.int v], g, I, J) Q := qev_ret hx (by show (if v = 0 ∨ v = 1 then _ else _) = _; rw [if_pos hv]) k
theorem e_aret {v : Option Nat} (hx : qP m pc = some (.areturn, 1, 0, 0, 0)) (k : Q (some (va_rf v)) g I J) : qev d m (pc, ls, [va_rf v], g, I, J) Q := by
  cases v with
  | none => exact qev_ret hx rfl k
  | some v => exact qev_ret hx rfl k
theorem e_min {ix : Nat} {x y : Int32} (hx : qP m pc = some (.invokestatic ix, 3, 1001, 2, 1)) (hp : pc + 3 = pc') (hr : qfs st ≤ 8) (k : qev d m (pc', ls, .int (if y < x then y else x) :: st, g, I, J) Q) : qev d m (pc, ls, .int y :: .int x :: st, g, I, J) Q := by
  subst hp
  refine qev_next hx ?_ k
  show (if qfs st ≤ 8 then _ else _) = _
  rw [if_pos hr]
theorem e_max {ix : Nat} {x y : Int32} (hx : qP m pc = some (.invokestatic ix, 3, 1002, 2, 1)) (hp : pc + 3 = pc') (hr : qfs st ≤ 8) (k : qev d m (pc', ls, .int (if x < y then y else x) :: st, g, I, J) Q) : qev d m (pc, ls, .int y :: .int x :: st, g, I, J) Q := by
  subst hp
  refine qev_next hx ?_ k
  show (if qfs st ≤ 8 then _ else _) = _
  rw [if_pos hr]
theorem e_copy {ix a b na nb : Nat} {sp dp n : Int32} (s0 d0 n0 : Nat) (hx : qP m pc = some (.invokestatic ix, 3, 1003, 5, 1)) (hp : pc + 3 = pc') (hr : qfs st ≤ 8) (ha : g.1 a = some (100, na)) (hb : g.1 b = some (100, nb)) (hs : sp = nI s0) (hd : dp = nI d0) (hn : n = nI n0) (h1 : s0 + n0 ≤ na) (h2 : d0 + n0 ≤ nb) (h3 : na < 2 ^ 31) (h4 : nb < 2 ^ 31) (k : qev d m (pc', ls, st, g, va_up I b (va_cpy (I a) (I b) s0 d0 n0), J) Q) : qev d m (pc, ls, .int n :: .int dp :: .ref b :: .int sp :: .ref a :: st, g, I, J) Q := by
  subst hp hs hd hn
  refine qev_next hx ?_ k
  show (match qar g a 100, qar g b 100 with
      | some na, some nb => if (0 ≤ (nI s0).toInt ∧ 0 ≤ (nI d0).toInt ∧ 0 ≤ (nI n0).toInt ∧ (nI s0).toInt + (nI n0).toInt ≤ na ∧ (nI d0).toInt + (nI n0).toInt ≤ nb) ∧ qfs st ≤ 8 then
          qnx (pc + 3) ls st g (va_up I b (va_cpy (I a) (I b) (nI s0).toNatClampNeg (nI d0).toNatClampNeg (nI n0).toNatClampNeg)) J else none
      | _, _ => none) = _
  rw [show qar g a 100 = some na by unfold qar; rw [ha]; rfl, show qar g b 100 = some nb by unfold qar; rw [hb]; rfl]
  dsimp only
  rw [nI_toInt (show s0 < 2 ^ 31 by omega), nI_toInt (show d0 < 2 ^ 31 by omega), nI_toInt (show n0 < 2 ^ 31 by omega), nI_clamp (show s0 < 2 ^ 31 by omega), nI_clamp (show d0 < 2 ^ 31 by omega), nI_clamp (show n0 < 2 ^ 31 by omega)]
  rw [if_pos ⟨by omega, hr⟩]
theorem e_slen {ix o n : Nat} (hx : qP m pc = some (.invokevirtual ix, 3, 1004, 0, 0)) (hp : pc + 3 = pc') (h1 : 1 ≤ o) (h3 : o ≤ 3) (hn : (qstr o).length = n) (hr : qfs st ≤ 8) (k : qev d m (pc', ls, .int (nI n) :: st, g, I, J) Q) : qev d m (pc, ls, .ref o :: st, g, I, J) Q := by
  subst hp hn
  refine qev_next hx ?_ k
  show (if 1 ≤ o ∧ o ≤ 3 ∧ qfs st ≤ 8 then _ else _) = _
  rw [if_pos ⟨h1, h3, hr⟩]
  rfl
theorem e_sch {ix o : Nat} {i : Int32} (j : Nat) (hx : qP m pc = some (.invokevirtual ix, 3, 1005, 1, 0)) (hp : pc + 3 = pc') (h1 : 1 ≤ o) (h3 : o ≤ 3) (hi : i = nI j) (hj : j < (qstr o).length) (hr : qfs st ≤ 8) (k : qev d m (pc', ls, .int (nI ((qstr o).getD j 0)) :: st, g, I, J) Q) : qev d m (pc, ls, .int i :: .ref o :: st, g, I, J) Q := by
  subst hp
  have hl : (qstr o).length < 2 ^ 31 := by
    rcases (show o = 1 ∨ o = 2 ∨ o = 3 by omega) with rfl | rfl | rfl <;> decide
  obtain ⟨h4, h5⟩ := qix_of hi hj hl
  refine qev_next hx ?_ k
  show (if 1 ≤ o ∧ o ≤ 3 ∧ qfs st ≤ 8 then (if qix i (qstr o).length = true then _ else _) else _) = _
  rw [if_pos ⟨h1, h3, hr⟩, if_pos h4, h5]
  rfl
/-- a call, by what the callee leaves alone -/
def qkg (c : Nat) (g g' : qG) : qG := bif qbG (qfl c) then g' else g
theorem e_callX {x : qE} {c : Nat} {as : List Value} {rest : List Value} (hx : qP m pc = some x) (hs : qstep x pc ls st g I J = some (.inr (.inr (c, as, pc', rest))))
    (k : qC d c as g I J (fun v g' I' J' => ((qbG (qfl c) = false → g' = g) ∧ (qbI (qfl c) = false → I' = I) ∧ (qbJ (qfl c) = false → J' = J)) → qthr v = false ∧ qev (d + 1) m (pc', ls, v.toList ++ rest, g', I', J') Q)) : qev (d + 1) m (pc, ls, st, g, I, J) Q := by
  refine qev_call hx hs ?_
  obtain ⟨n, v, g', I', J', h1, h2⟩ := k
  exact ⟨n, v, g', I', J', h1, h2 (qrun_keep _ _ _ _ _ _ _ _ h1)⟩
theorem e_cpI {x : qE} {c : Nat} {as : List Value} {rest : List Value} (hx : qP m pc = some x) (hs : qstep x pc ls st g I J = some (.inr (.inr (c, as, pc', rest)))) (hG : qbG (qfl c) = false) (hI : qbI (qfl c) = false) (hJ : qbJ (qfl c) = false)
    (k : qC d c as g I J (fun v _ _ _ => ∃ (r : Int32), v = some (.int r) ∧ qev (d + 1) m (pc', ls, .int r :: rest, g, I, J) Q)) : qev (d + 1) m (pc, ls, st, g, I, J) Q := by
  refine e_callX hx hs (k.mono (fun v g2 I2 J2 h hk => ?_))
  obtain rfl := hk.1 hG
  obtain rfl := hk.2.1 hI
  obtain rfl := hk.2.2 hJ
  obtain ⟨r, rfl, h⟩ := h
  exact ⟨rfl, h⟩
theorem e_cpL {x : qE} {c : Nat} {as : List Value} {rest : List Value} (hx : qP m pc = some x) (hs : qstep x pc ls st g I J = some (.inr (.inr (c, as, pc', rest)))) (hG : qbG (qfl c) = false) (hI : qbI (qfl c) = false) (hJ : qbJ (qfl c) = false)
    (k : qC d c as g I J (fun v _ _ _ => ∃ (r : Int64), v = some (.long r) ∧ qev (d + 1) m (pc', ls, .long r :: rest, g, I, J) Q)) : qev (d + 1) m (pc, ls, st, g, I, J) Q := by
  refine e_callX hx hs (k.mono (fun v g2 I2 J2 h hk => ?_))
  obtain rfl := hk.1 hG
  obtain rfl := hk.2.1 hI
  obtain rfl := hk.2.2 hJ
  obtain ⟨r, rfl, h⟩ := h
  exact ⟨rfl, h⟩
theorem e_cpA {x : qE} {c : Nat} {as : List Value} {rest : List Value} (hx : qP m pc = some x) (hs : qstep x pc ls st g I J = some (.inr (.inr (c, as, pc', rest)))) (hG : qbG (qfl c) = false) (hI : qbI (qfl c) = false) (hJ : qbJ (qfl c) = false)
    (k : qC d c as g I J (fun v _ _ _ => ∃ (r : Option Nat), v = some (va_rf r) ∧ qev (d + 1) m (pc', ls, va_rf r :: rest, g, I, J) Q)) : qev (d + 1) m (pc, ls, st, g, I, J) Q := by
  refine e_callX hx hs (k.mono (fun v g2 I2 J2 h hk => ?_))
  obtain rfl := hk.1 hG
  obtain rfl := hk.2.1 hI
  obtain rfl := hk.2.2 hJ
  obtain ⟨r, rfl, h⟩ := h
  cases r <;> exact ⟨rfl, h⟩
theorem e_cpV {x : qE} {c : Nat} {as : List Value} {rest : List Value} (hx : qP m pc = some x) (hs : qstep x pc ls st g I J = some (.inr (.inr (c, as, pc', rest)))) (hG : qbG (qfl c) = false) (hI : qbI (qfl c) = false) (hJ : qbJ (qfl c) = false)
    (k : qC d c as g I J (fun v _ _ _ => v = none ∧ qev (d + 1) m (pc', ls, rest, g, I, J) Q)) : qev (d + 1) m (pc, ls, st, g, I, J) Q := by
  refine e_callX hx hs (k.mono (fun v g2 I2 J2 h hk => ?_))
  obtain rfl := hk.1 hG
  obtain rfl := hk.2.1 hI
  obtain rfl := hk.2.2 hJ
  obtain ⟨rfl, h⟩ := h
  exact ⟨rfl, h⟩
theorem e_ciI {x : qE} {c : Nat} {as : List Value} {rest : List Value} (hx : qP m pc = some x) (hs : qstep x pc ls st g I J = some (.inr (.inr (c, as, pc', rest)))) (hG : qbG (qfl c) = false) (hJ : qbJ (qfl c) = false)
    (k : qC d c as g I J (fun v _ I2 _ => ∃ (r : Int32), v = some (.int r) ∧ qev (d + 1) m (pc', ls, .int r :: rest, g, I2, J) Q)) : qev (d + 1) m (pc, ls, st, g, I, J) Q := by
  refine e_callX hx hs (k.mono (fun v g2 I2 J2 h hk => ?_))
  obtain rfl := hk.1 hG
  obtain rfl := hk.2.2 hJ
  obtain ⟨r, rfl, h⟩ := h
  exact ⟨rfl, h⟩
theorem e_ciL {x : qE} {c : Nat} {as : List Value} {rest : List Value} (hx : qP m pc = some x) (hs : qstep x pc ls st g I J = some (.inr (.inr (c, as, pc', rest)))) (hG : qbG (qfl c) = false) (hJ : qbJ (qfl c) = false)
    (k : qC d c as g I J (fun v _ I2 _ => ∃ (r : Int64), v = some (.long r) ∧ qev (d + 1) m (pc', ls, .long r :: rest, g, I2, J) Q)) : qev (d + 1) m (pc, ls, st, g, I, J) Q := by
  refine e_callX hx hs (k.mono (fun v g2 I2 J2 h hk => ?_))
  obtain rfl := hk.1 hG
  obtain rfl := hk.2.2 hJ
  obtain ⟨r, rfl, h⟩ := h
  exact ⟨rfl, h⟩
theorem e_ciA {x : qE} {c : Nat} {as : List Value} {rest : List Value} (hx : qP m pc = some x) (hs : qstep x pc ls st g I J = some (.inr (.inr (c, as, pc', rest)))) (hG : qbG (qfl c) = false) (hJ : qbJ (qfl c) = false)
    (k : qC d c as g I J (fun v _ I2 _ => ∃ (r : Option Nat), v = some (va_rf r) ∧ qev (d + 1) m (pc', ls, va_rf r :: rest, g, I2, J) Q)) : qev (d + 1) m (pc, ls, st, g, I, J) Q := by
  refine e_callX hx hs (k.mono (fun v g2 I2 J2 h hk => ?_))
  obtain rfl := hk.1 hG
  obtain rfl := hk.2.2 hJ
  obtain ⟨r, rfl, h⟩ := h
  cases r <;> exact ⟨rfl, h⟩
theorem e_ciV {x : qE} {c : Nat} {as : List Value} {rest : List Value} (hx : qP m pc = some x) (hs : qstep x pc ls st g I J = some (.inr (.inr (c, as, pc', rest)))) (hG : qbG (qfl c) = false) (hJ : qbJ (qfl c) = false)
    (k : qC d c as g I J (fun v _ I2 _ => v = none ∧ qev (d + 1) m (pc', ls, rest, g, I2, J) Q)) : qev (d + 1) m (pc, ls, st, g, I, J) Q := by
  refine e_callX hx hs (k.mono (fun v g2 I2 J2 h hk => ?_))
  obtain rfl := hk.1 hG
  obtain rfl := hk.2.2 hJ
  obtain ⟨rfl, h⟩ := h
  exact ⟨rfl, h⟩
theorem e_cjI {x : qE} {c : Nat} {as : List Value} {rest : List Value} (hx : qP m pc = some x) (hs : qstep x pc ls st g I J = some (.inr (.inr (c, as, pc', rest)))) (hG : qbG (qfl c) = false)
    (k : qC d c as g I J (fun v _ I2 J2 => ∃ (r : Int32), v = some (.int r) ∧ qev (d + 1) m (pc', ls, .int r :: rest, g, I2, J2) Q)) : qev (d + 1) m (pc, ls, st, g, I, J) Q := by
  refine e_callX hx hs (k.mono (fun v g2 I2 J2 h hk => ?_))
  obtain rfl := hk.1 hG
  obtain ⟨r, rfl, h⟩ := h
  exact ⟨rfl, h⟩
theorem e_cjL {x : qE} {c : Nat} {as : List Value} {rest : List Value} (hx : qP m pc = some x) (hs : qstep x pc ls st g I J = some (.inr (.inr (c, as, pc', rest)))) (hG : qbG (qfl c) = false)
    (k : qC d c as g I J (fun v _ I2 J2 => ∃ (r : Int64), v = some (.long r) ∧ qev (d + 1) m (pc', ls, .long r :: rest, g, I2, J2) Q)) : qev (d + 1) m (pc, ls, st, g, I, J) Q := by
  refine e_callX hx hs (k.mono (fun v g2 I2 J2 h hk => ?_))
  obtain rfl := hk.1 hG
  obtain ⟨r, rfl, h⟩ := h
  exact ⟨rfl, h⟩
theorem e_cjA {x : qE} {c : Nat} {as : List Value} {rest : List Value} (hx : qP m pc = some x) (hs : qstep x pc ls st g I J = some (.inr (.inr (c, as, pc', rest)))) (hG : qbG (qfl c) = false)
    (k : qC d c as g I J (fun v _ I2 J2 => ∃ (r : Option Nat), v = some (va_rf r) ∧ qev (d + 1) m (pc', ls, va_rf r :: rest, g, I2, J2) Q)) : qev (d + 1) m (pc, ls, st, g, I, J) Q := by
  refine e_callX hx hs (k.mono (fun v g2 I2 J2 h hk => ?_))
  obtain rfl := hk.1 hG
  obtain ⟨r, rfl, h⟩ := h
  cases r <;> exact ⟨rfl, h⟩
theorem e_cjV {x : qE} {c : Nat} {as : List Value} {rest : List Value} (hx : qP m pc = some x) (hs : qstep x pc ls st g I J = some (.inr (.inr (c, as, pc', rest)))) (hG : qbG (qfl c) = false)
    (k : qC d c as g I J (fun v _ I2 J2 => v = none ∧ qev (d + 1) m (pc', ls, rest, g, I2, J2) Q)) : qev (d + 1) m (pc, ls, st, g, I, J) Q := by
  refine e_callX hx hs (k.mono (fun v g2 I2 J2 h hk => ?_))
  obtain rfl := hk.1 hG
  obtain ⟨rfl, h⟩ := h
  exact ⟨rfl, h⟩
theorem e_cgI {x : qE} {c : Nat} {as : List Value} {rest : List Value} (hx : qP m pc = some x) (hs : qstep x pc ls st g I J = some (.inr (.inr (c, as, pc', rest))))
    (k : qC d c as g I J (fun v g2 I2 J2 => ∃ (r : Int32), v = some (.int r) ∧ qev (d + 1) m (pc', ls, .int r :: rest, g2, I2, J2) Q)) : qev (d + 1) m (pc, ls, st, g, I, J) Q := by
  refine e_callX hx hs (k.mono (fun v g2 I2 J2 h hk => ?_))
  obtain ⟨r, rfl, h⟩ := h
  exact ⟨rfl, h⟩
theorem e_cgL {x : qE} {c : Nat} {as : List Value} {rest : List Value} (hx : qP m pc = some x) (hs : qstep x pc ls st g I J = some (.inr (.inr (c, as, pc', rest))))
    (k : qC d c as g I J (fun v g2 I2 J2 => ∃ (r : Int64), v = some (.long r) ∧ qev (d + 1) m (pc', ls, .long r :: rest, g2, I2, J2) Q)) : qev (d + 1) m (pc, ls, st, g, I, J) Q := by
  refine e_callX hx hs (k.mono (fun v g2 I2 J2 h hk => ?_))
  obtain ⟨r, rfl, h⟩ := h
  exact ⟨rfl, h⟩
theorem e_cgA {x : qE} {c : Nat} {as : List Value} {rest : List Value} (hx : qP m pc = some x) (hs : qstep x pc ls st g I J = some (.inr (.inr (c, as, pc', rest))))
    (k : qC d c as g I J (fun v g2 I2 J2 => ∃ (r : Option Nat), v = some (va_rf r) ∧ qev (d + 1) m (pc', ls, va_rf r :: rest, g2, I2, J2) Q)) : qev (d + 1) m (pc, ls, st, g, I, J) Q := by
  refine e_callX hx hs (k.mono (fun v g2 I2 J2 h hk => ?_))
  obtain ⟨r, rfl, h⟩ := h
  cases r <;> exact ⟨rfl, h⟩
theorem e_cgV {x : qE} {c : Nat} {as : List Value} {rest : List Value} (hx : qP m pc = some x) (hs : qstep x pc ls st g I J = some (.inr (.inr (c, as, pc', rest))))
    (k : qC d c as g I J (fun v g2 I2 J2 => v = none ∧ qev (d + 1) m (pc', ls, rest, g2, I2, J2) Q)) : qev (d + 1) m (pc, ls, st, g, I, J) Q := by
  refine e_callX hx hs (k.mono (fun v g2 I2 J2 h hk => ?_))
  obtain ⟨rfl, h⟩ := h
  exact ⟨rfl, h⟩
end QRULES
theorem e_sS {i : Instr} {pc pc' c n : Nat} {ls st as r : List Value} {g : qG} {I : qI} {J : qJ} (hi : ∀ t, qstep (i, 3, c, n, t) pc ls st g I J = qcl (i, 3, c, n, t) (pc + 3) ls st g I J) (hc : Nat.ble 1000 c = false) (hl : n ≤ st.length) (ha : (st.take n).reverse = as) (hr : st.drop n = r) (hf : qfs r ≤ 8) (hq : (qlay as).length ≤ qML c) (hp : pc + 3 = pc') : qstep (i, 3, c, n, 1) pc ls st g I J = some (.inr (.inr (c, as, pc', r))) := by
  subst ha hr hp
  rw [hi]
  unfold qcl
  dsimp only
  rw [hc]
  show (if qfs (st.drop n) ≤ 8 ∧ n ≤ st.length ∧ (qlay (st.take n).reverse).length ≤ qML c then _ else _) = _
  rw [if_pos ⟨hf, hl, hq⟩]
theorem e_sV {i : Instr} {pc pc' c n o t : Nat} {ls st as r : List Value} {g : qG} {I : qI} {J : qJ} (hi : ∀ t, qstep (i, 3, c, n, t) pc ls st g I J = qcl (i, 3, c, n, t) (pc + 3) ls st g I J) (ht : t = 0 ∨ t = 2) (hc : Nat.ble 1000 c = false) (ho : qob g o (qOw c) = true) (ha : (st.take n).reverse = as) (hr : st.drop n = .ref o :: r) (hf : qfs r ≤ 8) (hq : (qlay (.ref o :: as)).length ≤ qML c) (hp : pc + 3 = pc') : qstep (i, 3, c, n, t) pc ls st g I J = some (.inr (.inr (c, .ref o :: as, pc', r))) := by
  subst ha hp
  rw [hi]
  unfold qcl
  dsimp only
  rw [hc, hr]
  rcases ht with rfl | rfl
  · show (if qob g o (qOw c) = true ∧ qfs r ≤ 8 ∧ (qlay (.ref o :: (st.take n).reverse)).length ≤ qML c then _ else _) = _
    rw [if_pos ⟨ho, hf, hq⟩]
  · show (if qob g o (qOw c) = true ∧ qfs r ≤ 8 ∧ (qlay (.ref o :: (st.take n).reverse)).length ≤ qML c then _ else _) = _
    rw [if_pos ⟨ho, hf, hq⟩]
