/-! what a run of the abstract machine comes to -/
abbrev qQ : Type := Option Value → qG → qI → qJ → Prop
def qev (d m : Nat) (f : qF) (Q : qQ) : Prop := ∃ (n : Nat) (v : Option Value) (g : qG) (I : qI) (J : qJ), qrun n d m f = some (v, g, I, J) ∧ Q v g I J
abbrev qC (d c : Nat) (as : List Value) (g : qG) (I : qI) (J : qJ) (Q : qQ) : Prop := qev d c (0, qent c as, [], g, I, J) Q
theorem qrun_s (n d m pc : Nat) (ls st : List Value) (g : qG) (I : qI) (J : qJ) : qrun (n + 1) d m (pc, ls, st, g, I, J) = (match qP m pc with
    | none => none
    | some x => match qstep x pc ls st g I J with
      | none => none
      | some (.inl f) => qrun n d m f
      | some (.inr (.inl v)) => some (v, g, I, J)
      | some (.inr (.inr (c, as, pc', rest))) => match d with
        | 0 => none
        | d' + 1 => match qrun n d' c (0, qent c as, [], g, I, J) with
          | none => none
          | some (v, g', I', J') => match qthr v with
            | false => qrun n (d' + 1) m (pc', ls, v.toList ++ rest, g', I', J')
            | true => bif Nat.beq m 269 then qrun n (d' + 1) m (13, ls, [.ref g'.2.2.1], (g'.1, g'.2.1, g'.2.2.1 + 1, g'.2.2.2 + 6), I', J') else none) := rfl
theorem qrun_mono1 : ∀ (n d m : Nat) (f : qF) (s : qS), qrun n d m f = some s → qrun (n + 1) d m f = some s := by
  intro n
  induction n with
  | zero => intro d m f s h; cases h
  | succ n ih =>
    intro d m f s h
    obtain ⟨pc, ls, st, g, I, J⟩ := f
    rw [qrun_s] at h ⊢
    cases hx : qP m pc with
    | none => rw [hx] at h; cases h
    | some x =>
      rw [hx] at h
      dsimp only at h ⊢
      cases hs : qstep x pc ls st g I J with
      | none => rw [hs] at h; cases h
      | some r =>
        rw [hs] at h
        obtain f | v | ⟨c, as, pc', rest⟩ := r
        · exact ih _ _ _ _ h
        · exact h
        · dsimp only at h ⊢
          cases d with
          | zero => cases h
          | succ d' =>
            dsimp only at h ⊢
            cases hc : qrun n d' c (0, qent c as, [], g, I, J) with
            | none => rw [hc] at h; cases h
            | some w =>
              rw [hc] at h
              rw [ih _ _ _ _ hc]
              obtain ⟨v, g', I', J'⟩ := w
              dsimp only at h ⊢
              cases ht : qthr v with
              | false => rw [ht] at h; exact ih _ _ _ _ h
              | true =>
                rw [ht] at h
                dsimp only at h ⊢
                cases hb : Nat.beq m 269 with
                | false => rw [hb] at h; cases h
                | true => rw [hb] at h; exact ih _ _ _ _ h
theorem qrun_mono {n d m : Nat} {f : qF} {s : qS} (h : qrun n d m f = some s) (k : Nat) : qrun (n + k) d m f = some s := by
  induction k with
  | zero => exact h
  | succ k ih => exact qrun_mono1 _ _ _ _ _ ih
theorem qev.mono {d m : Nat} {f : qF} {Q Q' : qQ} (h : qev d m f Q) (k : ∀ v g I J, Q v g I J → Q' v g I J) : qev d m f Q' := by
  obtain ⟨n, v, g, I, J, h1, h2⟩ := h
  exact ⟨n, v, g, I, J, h1, k _ _ _ _ h2⟩
theorem qev_next {d m pc : Nat} {ls st : List Value} {g : qG} {I : qI} {J : qJ} {Q : qQ} {x : qE} {f : qF} (hx : qP m pc = some x) (hs : qstep x pc ls st g I J = some (.inl f)) (k : qev d m f Q) : qev d m (pc, ls, st, g, I, J) Q := by
  obtain ⟨n, v, g', I', J', h1, h2⟩ := k
  refine ⟨n + 1, v, g', I', J', ?_, h2⟩
  rw [qrun_s, hx]
  dsimp only
  rw [hs]
  exact h1
theorem qev_ret {d m pc : Nat} {ls st : List Value} {g : qG} {I : qI} {J : qJ} {Q : qQ} {x : qE} {v : Option Value} (hx : qP m pc = some x) (hs : qstep x pc ls st g I J = some (.inr (.inl v))) (k : Q v g I J) : qev d m (pc, ls, st, g, I, J) Q := by
  refine ⟨1, v, g, I, J, ?_, k⟩
  rw [qrun_s, hx]
  dsimp only
  rw [hs]
theorem qev_call {d m pc : Nat} {ls st : List Value} {g : qG} {I : qI} {J : qJ} {Q : qQ} {x : qE} {c pc' : Nat} {as rest : List Value} (hx : qP m pc = some x) (hs : qstep x pc ls st g I J = some (.inr (.inr (c, as, pc', rest))))
    (k : qC d c as g I J (fun v g' I' J' => qthr v = false ∧ qev (d + 1) m (pc', ls, v.toList ++ rest, g', I', J') Q)) : qev (d + 1) m (pc, ls, st, g, I, J) Q := by
  obtain ⟨n1, v1, g1, I1, J1, h1, ht, n2, v, g', I', J', h2, h3⟩ := k
  refine ⟨n1 + n2 + 1, v, g', I', J', ?_, h3⟩
  rw [qrun_s, hx]
  dsimp only
  rw [hs]
  dsimp only
  rw [qrun_mono h1 n2]
  dsimp only
  rw [ht]
  dsimp only
  rw [Nat.add_comm n1 n2]
  exact qrun_mono h2 n1
