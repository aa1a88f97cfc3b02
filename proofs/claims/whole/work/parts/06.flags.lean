def qxg (x : qE) : Bool := match x.1 with
  | .new _ => true
  | .newarray _ => true
  | .anewarray _ => true
  | .aastore => true
  | .putfield _ => Nat.beq x.2.2.2.2 2
  | _ => false
def qxi (x : qE) : Bool := match x.1 with
  | .new _ => true
  | .newarray _ => true
  | .anewarray _ => true
  | .iastore => true
  | .bastore => true
  | .putfield _ => Nat.beq x.2.2.2.2 0 || Nat.beq x.2.2.2.2 3
  | .invokevirtual _ => Nat.beq x.2.2.1 1003
  | .invokespecial _ => Nat.beq x.2.2.1 1003
  | .invokestatic _ => Nat.beq x.2.2.1 1003
  | _ => false
def qxj (x : qE) : Bool := match x.1 with
  | .new _ => true
  | .newarray _ => true
  | .anewarray _ => true
  | .lastore => true
  | .putfield _ => Nat.beq x.2.2.2.2 1
  | _ => false
set_option maxHeartbeats 4000000 in
theorem qstep_keep {x : qE} {pc : Nat} {ls st : List Value} {g : qG} {I : qI} {J : qJ} {pc' : Nat} {ls' st' : List Value} {g' : qG} {I' : qI} {J' : qJ} (h : qstep x pc ls st g I J = some (.inl (pc', ls', st', g', I', J'))) :
    (qxg x = false → g' = g) ∧ (qxi x = false → I' = I) ∧ (qxj x = false → J' = J) := by
  obtain ⟨i, len, a, b, t⟩ := x
  unfold qstep at h
  dsimp only at h
  split at h
  all_goals (try dsimp only [qxg, qxi, qxj])
  all_goals (try unfold qcl at h)
  all_goals (try unfold qpr at h)
  all_goals (try unfold qpf at h)
  all_goals (try dsimp only at h)
  all_goals (repeat' (first | split at h | (simp only [Option.bind_eq_some_iff, Option.some.injEq, Sum.inl.injEq, Prod.mk.injEq, reduceCtorEq, cond_eq_ite] at h)))
  all_goals (try (obtain ⟨-, -, -, rfl, rfl, rfl⟩ := h; simp; done))
  all_goals (try (obtain ⟨-, -, -, -, -, rfl, rfl, rfl⟩ := h; simp; done))
def qfls : List (List Nat) := [[7, 2, 0, 0, 0, 2, 2, 2, 2, 2, 2, 2, 2, 2, 2, 2], [2, 2, 2, 2, 2, 2, 0, 0, 2, 0, 0, 0, 2, 7, 2, 2], [2, 2, 0, 0, 7, 7, 2, 7, 2, 7, 0, 2, 2, 2, 2, 1], [2, 2, 2, 2, 2, 2, 2, 2, 2, 2, 2, 2, 2, 2, 2, 2], [2, 2, 0, 2, 7, 3, 0, 0, 7, 0, 2, 2, 2, 2, 7, 2], [2, 0, 2, 2, 2, 2, 0, 0, 0, 0, 0, 0, 0, 0, 0, 0], [7, 2, 7, 2, 2, 2, 7, 0, 7, 2, 2, 0, 7, 0, 7, 7], [7, 7, 7, 0, 2, 0, 0, 2, 2, 2, 2, 3, 2, 0, 2, 0], [0, 2, 2, 0, 0, 2, 7, 0, 0, 2, 2, 7, 2, 4, 6, 2], [2, 7, 0, 0, 0, 0, 2, 2, 2, 0, 2, 2, 0, 0, 0, 2], [2, 2, 2, 2, 2, 2, 2, 2, 2, 2, 2, 2, 2, 2, 2, 2], [2, 2, 0, 0, 0, 2, 0, 2, 2, 0, 0, 2, 0, 2, 2, 2], [2, 2, 2, 2, 2, 2, 2, 2, 2, 2, 2, 0, 2, 2, 2, 2], [2, 2, 2, 2, 2, 2, 0, 0, 2, 2, 2, 2, 2, 2, 2, 2], [2, 2, 2, 2, 2, 2, 0, 2, 2, 2, 2, 4, 6, 0, 6, 2], [2, 2, 2, 2, 2, 2, 2, 2, 2, 0, 0, 2, 2, 2, 0, 2], [2, 2, 2, 2, 2, 2, 0, 0, 0, 2, 2, 0, 2, 7, 7]]
def qfl (m : Nat) : Nat := qnth (qnth qfls (m / 16) []) (m % 16) 7
def qbG (f : Nat) : Bool := Nat.beq (f % 2) 1
def qbI (f : Nat) : Bool := Nat.beq (f / 2 % 2) 1
def qbJ (f : Nat) : Bool := Nat.beq (f / 4 % 2) 1
def qimp (a b : Bool) : Bool := !a || b
def qisc (x : qE) : Bool := match x.1 with
  | .invokevirtual _ => Nat.blt x.2.2.1 1000
  | .invokespecial _ => Nat.blt x.2.2.1 1000
  | .invokestatic _ => Nat.blt x.2.2.1 1000
  | _ => false
def qfok (f : Nat) (x : qE) : Bool := (qimp (qxg x) (qbG f) && (qimp (qxi x) (qbI f) && qimp (qxj x) (qbJ f))) && qimp (qisc x) (qimp (qbG (qfl x.2.2.1)) (qbG f) && (qimp (qbI (qfl x.2.2.1)) (qbI f) && qimp (qbJ (qfl x.2.2.1)) (qbJ f)))
def qall (m : Nat) (p : qE → Bool) : Bool := (qpm m).all (fun r => r.all (fun o => match o with
  | some x => p x
  | none => true))
theorem qnth_mem {α : Type} : ∀ (l : List α) (n : Nat) (d : α), qnth l n d = d ∨ qnth l n d ∈ l
  | [], _, _ => Or.inl rfl
  | x :: l, 0, _ => Or.inr List.mem_cons_self
  | x :: l, n + 1, d => (qnth_mem l n d).elim Or.inl (fun h => Or.inr (List.mem_cons_of_mem _ h))
theorem qall_at {m pc : Nat} {p : qE → Bool} {x : qE} (h : qall m p = true) (hx : qP m pc = some x) : p x = true := by
  unfold qall at h
  unfold qP at hx
  rcases qnth_mem (qnth (qpm m) (pc / 16) []) (pc % 16) none with e | e
  · rw [e] at hx; cases hx
  · rw [hx] at e
    rcases qnth_mem (qpm m) (pc / 16) [] with e2 | e2
    · rw [e2] at e; cases e
    · exact List.all_eq_true.mp (List.all_eq_true.mp h _ e2) _ e
theorem qpm_big {m : Nat} (h : ¬ m < 271) : qpm m = [] := by
  unfold qpm
  have : Nat.ble m 270 = false := by
    cases hb : Nat.ble m 270 with
    | false => rfl
    | true => exact absurd (Nat.lt_succ_of_le (Nat.le_of_ble_eq_true hb)) h
  rw [this]
  rfl
theorem qP_lt {m pc : Nat} {x : qE} (h : qP m pc = some x) : m < 271 := by
  by_cases hm : m < 271
  · exact hm
  · unfold qP at h
    rw [qpm_big hm] at h
    cases h
set_option maxRecDepth 100000 in
theorem qfok_all : ∀ m, m < 271 → qall m (qfok (qfl m)) = true := by decide +kernel
theorem qimp_f {a b : Bool} (h : qimp a b = true) (hb : b = false) : a = false := by
  cases a <;> cases b <;> simp_all [qimp]
theorem qfok_at {m pc : Nat} {x : qE} (hx : qP m pc = some x) : qfok (qfl m) x = true := qall_at (qfok_all m (qP_lt hx)) hx
theorem qstep_call {x : qE} {pc : Nat} {ls st : List Value} {g : qG} {I : qI} {J : qJ} {c : Nat} {as : List Value} {pc' : Nat} {r : List Value} (h : qstep x pc ls st g I J = some (.inr (.inr (c, as, pc', r)))) : x.2.2.1 = c ∧ qisc x = true := by
  obtain ⟨i, len, a, b, t⟩ := x
  unfold qstep at h
  dsimp only at h
  split at h
  all_goals (try unfold qcl at h)
  all_goals (try unfold qpr at h)
  all_goals (try unfold qpf at h)
  all_goals (try dsimp only at h)
  all_goals (cases hq : Nat.ble 1000 a)
  all_goals (try rw [hq] at h)
  all_goals (try dsimp only [cond] at h)
  all_goals (repeat' (first | split at h | (simp only [Option.bind_eq_some_iff, Option.some.injEq, Sum.inr.injEq, Prod.mk.injEq, reduceCtorEq, cond_eq_ite, and_false, exists_false, false_and] at h)))
  all_goals (try (simp only [Option.bind_eq_some_iff, Option.some.injEq, Sum.inr.injEq, Prod.mk.injEq, reduceCtorEq, and_false, exists_false] at h; done))
  all_goals (obtain ⟨rfl, -⟩ := h; refine ⟨rfl, ?_⟩; simp only [qisc]; have := Nat.not_le.mp (fun h => Bool.noConfusion (hq.symm.trans (Nat.ble_eq_true_of_le h))); exact Nat.ble_eq_true_of_le this)
theorem qrun_keep : ∀ (n d m : Nat) (f : qF) (v : Option Value) (g' : qG) (I' : qI) (J' : qJ), qrun n d m f = some (v, g', I', J') →
    (qbG (qfl m) = false → g' = f.2.2.2.1) ∧ (qbI (qfl m) = false → I' = f.2.2.2.2.1) ∧ (qbJ (qfl m) = false → J' = f.2.2.2.2.2) := by
  intro n
  induction n with
  | zero => intro d m f v g' I' J' h; cases h
  | succ n ih =>
    intro d m f v g' I' J' h
    obtain ⟨pc, ls, st, g, I, J⟩ := f
    rw [qrun_s] at h
    cases hx : qP m pc with
    | none => rw [hx] at h; cases h
    | some x =>
      rw [hx] at h
      dsimp only at h ⊢
      have hok := qfok_at hx
      unfold qfok at hok
      simp only [Bool.and_eq_true] at hok
      obtain ⟨⟨o1, o2, o3⟩, o4⟩ := hok
      cases hs : qstep x pc ls st g I J with
      | none => rw [hs] at h; cases h
      | some r =>
        rw [hs] at h
        obtain ⟨pc1, ls1, st1, g1, I1, J1⟩ | v1 | ⟨c, as, pc', rest⟩ := r
        · obtain ⟨k1, k2, k3⟩ := qstep_keep hs
          obtain ⟨i1, i2, i3⟩ := ih _ _ _ _ _ _ _ h
          exact ⟨fun hb => (i1 hb).trans (k1 (qimp_f o1 hb)), fun hb => (i2 hb).trans (k2 (qimp_f o2 hb)), fun hb => (i3 hb).trans (k3 (qimp_f o3 hb))⟩
        · cases h
          exact ⟨fun _ => rfl, fun _ => rfl, fun _ => rfl⟩
        · dsimp only at h
          obtain ⟨hc, hi⟩ := qstep_call hs
          subst hc
          rw [hi] at o4
          simp only [qimp, Bool.not_true, Bool.false_or, Bool.and_eq_true] at o4
          obtain ⟨p1, p2, p3⟩ := o4
          cases d with
          | zero => cases h
          | succ d' =>
            dsimp only at h
            cases hc : qrun n d' x.2.2.1 (0, qent x.2.2.1 as, [], g, I, J) with
            | none => rw [hc] at h; cases h
            | some w =>
              rw [hc] at h
              obtain ⟨v2, g2, I2, J2⟩ := w
              obtain ⟨j1, j2, j3⟩ := ih _ _ _ _ _ _ _ hc
              dsimp only at h
              cases ht : qthr v2 with
              | false =>
                rw [ht] at h
                obtain ⟨i1, i2, i3⟩ := ih _ _ _ _ _ _ _ h
                exact ⟨fun hb => (i1 hb).trans (j1 (qimp_f p1 hb)), fun hb => (i2 hb).trans (j2 (qimp_f p2 hb)), fun hb => (i3 hb).trans (j3 (qimp_f p3 hb))⟩
              | true =>
                rw [ht] at h
                dsimp only at h
                cases hb : Nat.beq m 269 with
                | false => rw [hb] at h; cases h
                | true =>
                  rw [hb] at h
                  obtain ⟨i1, i2, i3⟩ := ih _ _ _ _ _ _ _ h
                  have hm : m = 269 := Nat.eq_of_beq_eq_true hb
                  refine ⟨fun hb => ?_, fun hb => (i2 hb).trans (j2 (qimp_f p2 hb)), fun hb => (i3 hb).trans (j3 (qimp_f p3 hb))⟩
                  subst hm
                  exact absurd hb (by decide)
