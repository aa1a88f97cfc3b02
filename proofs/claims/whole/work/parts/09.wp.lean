section QWP
variable {d m pc pc' : Nat} {ls st r : List Value} {g : qG} {I : qI} {J : qJ} {Q : qQ}
theorem e_getR {ix a b o w : Nat} (hx : qP m pc = some (.getfield ix, 3, a, b, 2)) (hp : pc + 3 = pc') (ho : qob g o a = true) (hv : g.2.1 o b = some w) (k : qev d m (pc', ls, .ref w :: st, g, I, J) Q) : qev d m (pc, ls, .ref o :: st, g, I, J) Q := e_getA hx hp ho hv k
theorem e_aaldR {o n c w : Nat} {i : Int32} (j : Nat) (hx : qP m pc = some (.aaload, 1, 0, 0, 0)) (hp : pc + 1 = pc') (ha : g.1 o = some (c, n)) (hc : (Nat.beq c 103 || (Nat.beq c 104 || Nat.beq c 105)) = true) (hi : i = nI j) (hj : j < n) (hn : n < 2 ^ 31) (hv : g.2.1 o j = some w) (k : qev d m (pc', ls, .ref w :: st, g, I, J) Q) : qev d m (pc, ls, .int i :: .ref o :: st, g, I, J) Q := e_aald j hx hp ha hc hi hj hn hv k
theorem e_iinc {i : Nat} {n : Int} {x v : Int32} {ls' : List Value} (hx : qP m pc = some (.iinc i n, 3, 0, 0, 0)) (hp : pc + 3 = pc') (hv : Int32.ofInt n = v) (hl : ls[i]? = some (.int x)) (hs : qst1 ls i (.int (x + v)) = some ls') (k : qev d m (pc', ls', st, g, I, J) Q) : qev d m (pc, ls, st, g, I, J) Q := by
  subst hp hv
  refine qev_next hx ?_ k
  show (match ls[i]? with
      | some (.int v) => (qst1 ls i (.int (v + Int32.ofInt n))).bind (fun l => qnx (pc + 3) l st g I J)
      | _ => none) = _
  rw [hl]
  dsimp only
  rw [hs]
  rfl
theorem qld_rf {i : Nat} {x : Option Nat} (hl : ls[i]? = some (va_rf x)) : qld ls i 2 = some (va_rf x) := by
  unfold qld
  rw [hl]
  cases x <;> rfl
theorem e_aloadOn {k : Fin 4} {x : Option Nat} (hx : qP m pc = some (.aload_n k, 1, 0, 0, 0)) (hp : pc + 1 = pc') (hl : ls[(k : Nat)]? = some (va_rf x)) (kk : qev d m (pc', ls, va_rf x :: st, g, I, J) Q) : qev d m (pc, ls, st, g, I, J) Q := by
  subst hp
  refine qev_next hx ?_ kk
  show (qld ls (k : Nat) 2).bind _ = _
  rw [qld_rf hl]
  rfl
theorem e_aloadO {k : Nat} {x : Option Nat} (hx : qP m pc = some (.aload k, 2, 0, 0, 0)) (hp : pc + 2 = pc') (hl : ls[k]? = some (va_rf x)) (kk : qev d m (pc', ls, va_rf x :: st, g, I, J) Q) : qev d m (pc, ls, st, g, I, J) Q := by
  subst hp
  refine qev_next hx ?_ kk
  show (qld ls k 2).bind _ = _
  rw [qld_rf hl]
  rfl
theorem e_astoreOn {k : Fin 4} {x : Option Nat} {ls' : List Value} (hx : qP m pc = some (.astore_n k, 1, 0, 0, 0)) (hp : pc + 1 = pc') (hs : qst1 ls (k : Nat) (va_rf x) = some ls') (kk : qev d m (pc', ls', st, g, I, J) Q) : qev d m (pc, ls, va_rf x :: st, g, I, J) Q := by
  subst hp
  cases x with
  | none =>
    refine qev_next hx ?_ kk
    show (qst1 ls (k : Nat) .null).bind _ = _
    rw [show qst1 ls (k : Nat) .null = some ls' from hs]
    rfl
  | some x =>
    refine qev_next hx ?_ kk
    show (qst1 ls (k : Nat) (.ref x)).bind _ = _
    rw [show qst1 ls (k : Nat) (.ref x) = some ls' from hs]
    rfl
theorem e_astoreO {k : Nat} {x : Option Nat} {ls' : List Value} (hx : qP m pc = some (.astore k, 2, 0, 0, 0)) (hp : pc + 2 = pc') (hs : qst1 ls k (va_rf x) = some ls') (kk : qev d m (pc', ls', st, g, I, J) Q) : qev d m (pc, ls, va_rf x :: st, g, I, J) Q := by
  subst hp
  cases x with
  | none =>
    refine qev_next hx ?_ kk
    show (qst1 ls k .null).bind _ = _
    rw [show qst1 ls k .null = some ls' from hs]
    rfl
  | some x =>
    refine qev_next hx ?_ kk
    show (qst1 ls k (.ref x)).bind _ = _
    rw [show qst1 ls k (.ref x) = some ls' from hs]
    rfl
theorem e_tswI {d0 lo hi : Int} {offs : Array Int} {len t : Nat} {x : Int32} (k : Nat) (hx : qP m pc = some (.tableswitch d0 lo hi offs, len, 0, 0, 0)) (hv : x = nI k) (hk : k < 2 ^ 31) (hs : qsw pc d0 lo hi offs (k : Int) = some t) (kk : qev d m (t, ls, st, g, I, J) Q) : qev d m (pc, ls, .int x :: st, g, I, J) Q := by
  subst hv
  refine qev_next hx ?_ kk
  show (qsw pc d0 lo hi offs (nI k).toInt).bind _ = _
  rw [nI_toInt hk, hs]
  rfl
theorem qnot_in {x : Int32} {lo hi : Nat} (h : ∀ k : Nat, lo ≤ k → k ≤ hi → ¬ x = nI k) (hh : hi < 2 ^ 31) : x.toInt < (lo : Int) ∨ (hi : Int) < x.toInt := by
  by_cases h1 : x.toInt < (lo : Int)
  · exact Or.inl h1
  · by_cases h2 : (hi : Int) < x.toInt
    · exact Or.inr h2
    · exfalso
      refine h x.toInt.toNat (by omega) (by omega) ?_
      apply Int32.toInt_inj.mp
      rw [nI_toInt (by omega)]
      omega
theorem e_tswO {d0 : Int} {lo hi : Nat} {offs : Array Int} {len t : Nat} {x : Int32} (hx : qP m pc = some (.tableswitch d0 lo hi offs, len, 0, 0, 0)) (hv : ∀ k : Nat, lo ≤ k → k ≤ hi → ¬ x = nI k) (hh : hi < 2 ^ 31) (hs : qtb pc (some d0) = some t) (kk : qev d m (t, ls, st, g, I, J) Q) : qev d m (pc, ls, .int x :: st, g, I, J) Q := by
  refine qev_next hx ?_ kk
  show (qsw pc d0 lo hi offs x.toInt).bind _ = _
  unfold qsw
  rw [if_pos (qnot_in hv hh), hs]
  rfl
theorem e_lsw {d0 : Int} {ps : Array (Int × Int)} {len t : Nat} {x : Int32} (hx : qP m pc = some (.lookupswitch d0 ps, len, 0, 0, 0)) (hs : qtb pc (some (Op.lookupswitch.offset ps.toList d0 x.toInt)) = some t) (kk : qev d m (t, ls, st, g, I, J) Q) : qev d m (pc, ls, .int x :: st, g, I, J) Q := by
  refine qev_next hx ?_ kk
  show (qtb pc (some (Op.lookupswitch.offset ps.toList d0 x.toInt))).bind _ = _
  rw [hs]
  rfl
end QWP
