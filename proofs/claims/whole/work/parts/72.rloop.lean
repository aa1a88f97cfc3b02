/-! the reference: brackets, functions, atoms, powers, terms, expressions -/
section RLOOP
variable {d e : Nat} {g : qG} {I : qI} {J : qJ} {Q : qQ} {i a x S P : Nat} {t : List Nat} {ops : List (Nat × Nat)} {E : Nat → Nat → Rs} {op : Bool}
theorem r_op166 (hsh : qSh g) {F : Nat → Nat → Rs} (hS : rEx t g 167 x S (e + 1) F) (hG : gdE t 3 F) {I0 : qI} {i0 a0 : Nat} (hP : 4 * (ops.length + P) ≤ i0 + 8 * a0) : ∀ (f i a : Nat) (acc : List (Nat × Nat)) (I : qI) (v1 : Value), 25 ≤ a + f → rRd t I i a x S (ops ++ acc) → 4 * acc.length + 3 + i0 + 8 * a0 ≤ i + 8 * a → rQF S I0 I → rRes t g I0 J ops x S P Q (opL t F 42 5 47 6 f i a acc) → qev (d + (e + 2)) 166 (4, [.ref 105, v1], [], g, I, J) Q
  | 0, i, a, acc, I, v1, hf, h, hl, f0, k => absurd h.2.2.2.2.2.1 (by omega)
  | f + 1, i, a, acc, I, v1, hf, h, hl, f0, k => by
    have hb := h.1.2.2.2 (sk t i)
    have hL := h.1.2.1
    have q1 := sk_le t i
    unfold opL at k
    have fin : ∀ I1 : qI, rQF S I0 I1 → rRd t I1 (sk t i) a x S (ops ++ acc) → tb t (sk t i) = 42 ∨ tb t (sk t i) = 47 → qev (d + (e + 2)) 166 (30, [.ref 105, v1], [], g, I1, J) Q := fun I1 f1 h1 hcc => by
      rw [if_pos hcc] at k
      have hlt := tb_lt (t := t) (i := sk t i) (by omega)
      refine w166_30 hsh (r_lookR hsh h1 (fun I2 f2 h2 => ⟨_, rfl, ?_⟩))
      rw [sk_sk] at h2 ⊢
      rw [rlk_eq hb (by omega)]
      have h2' : rRd t (qw I2 105 3 (I2 105 3 + nI 1)) (sk t i + 1) a x S (ops ++ acc) := h2.mv rNF.w3 (by rw [zu_s, h2.2.1, nI_add]) hlt
      have f2' : rQF S I0 (qw I2 105 3 (I2 105 3 + nI 1)) := f1.trans (f2.trans rNF.w3).qf
      have hg3 := hG (sk t i + 1) a hlt h2'.2.2.2.2.2.1
      have nx : ∀ w, w = (if tb t (sk t i) = 42 then 5 else 6) → qC (d + (e + 1)) 167 [.ref 105] g (qw I2 105 3 (I2 105 3 + nI 1)) J (fun v _ I4 _ => v = none ∧ qC (d + (e + 1)) 162 [.ref 105, .int (nI w), .int (nI 0)] g I4 J (fun v _ I5 _ => v = none ∧ qev (d + (e + 2)) 166 (4, [.ref 105, .int (nI w)], [], g, I5, J) Q)) := fun w hw => by
        refine hS d _ a (P + 1) (ops ++ acc) _ _ _ h2' (by rw [List.length_append]; omega) ?_
        cases hr3 : F (sk t i + 1) a with
        | inl z =>
          rw [hr3] at k
          exact fun I3 f3 l3 => ⟨rfl, r_saysX hsh l3 (fun I4 f4 l4 => ⟨rfl, w166_4 hsh (brN l4.ne (k I4 ((f2'.trans f3).trans f4) l4))⟩)⟩
        | inr q =>
          obtain ⟨i3, a3, n3⟩ := q
          rw [hr3] at k hg3
          obtain ⟨g1, g2, g3, g4, g5, g6, g7, g8⟩ := hg3
          dsimp only at k
          refine fun I3 f3 h3 => ⟨rfl, r_says hsh h3 (by simp only [List.length_append]; omega) (o := (w, 0)) rfl (fun _ => rfl) (fun I4 f4 h4 => ⟨rfl, ?_⟩)⟩
          refine r_op166 hsh hS hG hP f i3 a3 (acc ++ n3 ++ [(w, 0)]) I4 _ (by omega) ?_ (by simp only [List.length_append, List.length_cons, List.length_nil]; omega) ((f2'.trans f3).trans f4) (by rw [hw]; exact k)
          simp only [List.append_assoc] at h4 ⊢
          exact h4
      by_cases hc1 : tb t (sk t i) = 42
      · exact brT hc1 (nx 5 (by rw [if_pos hc1]))
      · exact brN hc1 (nx 6 (by rw [if_neg hc1]))
    refine w166_4 hsh (brT h.2.2.2.1 (r_lookR hsh h (fun I1 f1 h1 => ⟨_, rfl, ?_⟩)))
    rw [rlk_eq hb (by omega)]
    by_cases e1 : tb t (sk t i) = 42
    · exact brT e1 (fin I1 (f0.trans f1.qf) h1 (Or.inl e1))
    · refine brN e1 (r_lookR hsh h1 (fun I2 f2 h2 => ⟨_, rfl, ?_⟩))
      rw [sk_sk] at h2 ⊢
      rw [rlk_eq hb (by omega)]
      by_cases e2 : tb t (sk t i) = 47
      · exact brT e2 (fin I2 ((f0.trans f1.qf).trans f2.qf) h2 (Or.inr e2))
      · rw [if_neg (by omega)] at k
        exact brN e2 (k I2 ((f0.trans f1.qf).trans f2.qf) h2)
theorem r_166 (hsh : qSh g) (hS : rEx t g 167 x S (e + 1) (poF t E op)) (hG : gdE t 3 (poF t E op)) : rEx t g 166 x S (e + 2) (teF t E op) := by
  intro d i a P ops I J Q h hP k
  unfold teF at k
  have hg := hG i a h.2.2.1 h.2.2.2.2.2.1
  refine w166 hsh (hS d i a P ops I J _ h hP ?_)
  cases hr : poF t E op i a with
  | inl f => rw [hr] at k; exact fun I1 f1 l1 => ⟨rfl, w166_4 hsh (brN l1.ne (k I1 f1 l1))⟩
  | inr q =>
    obtain ⟨i1, a1, n1⟩ := q
    rw [hr] at k hg
    obtain ⟨g1, g2, g3, g4, g5, g6, g7, g8⟩ := hg
    dsimp only at k
    exact fun I1 f1 h1 => ⟨rfl, r_op166 hsh hS hG hP 24 i1 a1 n1 I1 _ (by omega) h1 (by omega) f1 k⟩
theorem r_op165 (hsh : qSh g) {F : Nat → Nat → Rs} (hS : rEx t g 166 x S (e + 1) F) (hG : gdE t 3 F) {I0 : qI} {i0 a0 : Nat} (hP : 4 * (ops.length + P) ≤ i0 + 8 * a0) : ∀ (f i a : Nat) (acc : List (Nat × Nat)) (I : qI) (v1 : Value), 25 ≤ a + f → rRd t I i a x S (ops ++ acc) → 4 * acc.length + 3 + i0 + 8 * a0 ≤ i + 8 * a → rQF S I0 I → rRes t g I0 J ops x S P Q (opL t F 43 3 45 4 f i a acc) → qev (d + (e + 2)) 165 (4, [.ref 105, v1], [], g, I, J) Q
  | 0, i, a, acc, I, v1, hf, h, hl, f0, k => absurd h.2.2.2.2.2.1 (by omega)
  | f + 1, i, a, acc, I, v1, hf, h, hl, f0, k => by
    have hb := h.1.2.2.2 (sk t i)
    have hL := h.1.2.1
    have q1 := sk_le t i
    unfold opL at k
    have fin : ∀ I1 : qI, rQF S I0 I1 → rRd t I1 (sk t i) a x S (ops ++ acc) → tb t (sk t i) = 43 ∨ tb t (sk t i) = 45 → qev (d + (e + 2)) 165 (30, [.ref 105, v1], [], g, I1, J) Q := fun I1 f1 h1 hcc => by
      rw [if_pos hcc] at k
      have hlt := tb_lt (t := t) (i := sk t i) (by omega)
      refine w165_30 hsh (r_lookR hsh h1 (fun I2 f2 h2 => ⟨_, rfl, ?_⟩))
      rw [sk_sk] at h2 ⊢
      rw [rlk_eq hb (by omega)]
      have h2' : rRd t (qw I2 105 3 (I2 105 3 + nI 1)) (sk t i + 1) a x S (ops ++ acc) := h2.mv rNF.w3 (by rw [zu_s, h2.2.1, nI_add]) hlt
      have f2' : rQF S I0 (qw I2 105 3 (I2 105 3 + nI 1)) := f1.trans (f2.trans rNF.w3).qf
      have hg3 := hG (sk t i + 1) a hlt h2'.2.2.2.2.2.1
      have nx : ∀ w, w = (if tb t (sk t i) = 43 then 3 else 4) → qC (d + (e + 1)) 166 [.ref 105] g (qw I2 105 3 (I2 105 3 + nI 1)) J (fun v _ I4 _ => v = none ∧ qC (d + (e + 1)) 162 [.ref 105, .int (nI w), .int (nI 0)] g I4 J (fun v _ I5 _ => v = none ∧ qev (d + (e + 2)) 165 (4, [.ref 105, .int (nI w)], [], g, I5, J) Q)) := fun w hw => by
        refine hS d _ a (P + 1) (ops ++ acc) _ _ _ h2' (by rw [List.length_append]; omega) ?_
        cases hr3 : F (sk t i + 1) a with
        | inl z =>
          rw [hr3] at k
          exact fun I3 f3 l3 => ⟨rfl, r_saysX hsh l3 (fun I4 f4 l4 => ⟨rfl, w165_4 hsh (brN l4.ne (k I4 ((f2'.trans f3).trans f4) l4))⟩)⟩
        | inr q =>
          obtain ⟨i3, a3, n3⟩ := q
          rw [hr3] at k hg3
          obtain ⟨g1, g2, g3, g4, g5, g6, g7, g8⟩ := hg3
          dsimp only at k
          refine fun I3 f3 h3 => ⟨rfl, r_says hsh h3 (by simp only [List.length_append]; omega) (o := (w, 0)) rfl (fun _ => rfl) (fun I4 f4 h4 => ⟨rfl, ?_⟩)⟩
          refine r_op165 hsh hS hG hP f i3 a3 (acc ++ n3 ++ [(w, 0)]) I4 _ (by omega) ?_ (by simp only [List.length_append, List.length_cons, List.length_nil]; omega) ((f2'.trans f3).trans f4) (by rw [hw]; exact k)
          simp only [List.append_assoc] at h4 ⊢
          exact h4
      by_cases hc1 : tb t (sk t i) = 43
      · exact brT hc1 (nx 3 (by rw [if_pos hc1]))
      · exact brN hc1 (nx 4 (by rw [if_neg hc1]))
    refine w165_4 hsh (brT h.2.2.2.1 (r_lookR hsh h (fun I1 f1 h1 => ⟨_, rfl, ?_⟩)))
    rw [rlk_eq hb (by omega)]
    by_cases e1 : tb t (sk t i) = 43
    · exact brT e1 (fin I1 (f0.trans f1.qf) h1 (Or.inl e1))
    · refine brN e1 (r_lookR hsh h1 (fun I2 f2 h2 => ⟨_, rfl, ?_⟩))
      rw [sk_sk] at h2 ⊢
      rw [rlk_eq hb (by omega)]
      by_cases e2 : tb t (sk t i) = 45
      · exact brT e2 (fin I2 ((f0.trans f1.qf).trans f2.qf) h2 (Or.inr e2))
      · rw [if_neg (by omega)] at k
        exact brN e2 (k I2 ((f0.trans f1.qf).trans f2.qf) h2)
theorem r_165 (hsh : qSh g) (hS : rEx t g 166 x S (e + 1) (teF t E op)) (hG : gdE t 3 (teF t E op)) : rEx t g 165 x S (e + 2) (exF t E op) := by
  intro d i a P ops I J Q h hP k
  unfold exF at k
  have hg := hG i a h.2.2.1 h.2.2.2.2.2.1
  refine w165 hsh (hS d i a P ops I J _ h hP ?_)
  cases hr : teF t E op i a with
  | inl f => rw [hr] at k; exact fun I1 f1 l1 => ⟨rfl, w165_4 hsh (brN l1.ne (k I1 f1 l1))⟩
  | inr q =>
    obtain ⟨i1, a1, n1⟩ := q
    rw [hr] at k hg
    obtain ⟨g1, g2, g3, g4, g5, g6, g7, g8⟩ := hg
    dsimp only at k
    exact fun I1 f1 h1 => ⟨rfl, r_op165 hsh hS hG hP 24 i1 a1 n1 I1 _ (by omega) h1 (by omega) f1 k⟩
theorem r_167 (hsh : qSh g) (hS : rEx t g 168 x S (e + 2) (atF t E op)) (hG : gdE t 5 (atF t E op)) : rEx t g 167 x S (e + 3) (poF t E op) := by
  intro d i a P ops I J Q h hP k
  have hg := hG i a h.2.2.1 h.2.2.2.2.2.1
  have hL := h.1.2.1
  unfold poF at k
  refine w167 hsh (hS d i a P ops I J _ h hP ?_)
  cases hr : atF t E op i a with
  | inl f => rw [hr] at k; exact fun I1 f1 l1 => ⟨rfl, brN l1.ne (k I1 f1 l1)⟩
  | inr q =>
    obtain ⟨i1, a1, n1⟩ := q
    rw [hr] at k hg
    obtain ⟨g1, g2, g3, g4, g5, g6, g7, g8⟩ := hg
    dsimp only at k
    have hb := h.1.2.2.2 (sk t i1)
    refine fun I1 f1 h1 => ⟨rfl, brT h1.2.2.2.1 (r_lookR hsh h1 (fun I2 f2 h2 => ⟨_, rfl, ?_⟩))⟩
    rw [rlk_eq hb (by omega)]
    by_cases c1 : tb t (sk t i1) = 94
    · rw [if_pos c1] at k
      refine brT c1 ?_
      have hlt := tb_lt (t := t) (i := sk t i1) (by omega)
      have h3 : rRd t (qw I2 105 3 (I2 105 3 + nI 1)) (sk t i1 + 1) a1 x S (ops ++ n1) := h2.mv rNF.w3 (by rw [zu_s, h2.2.1, nI_add]) hlt
      have f3 : rQF S I (qw I2 105 3 (I2 105 3 + nI 1)) := f1.trans (f2.trans rNF.w3).qf
      have hn := nu_ok (t := t) (lo := 0) (hi := 99) (pb := false) (i := sk t i1 + 1) hlt
      refine r_nmb (pb := false) hsh h3.1 h3.2.1 h3.2.2.1 h3.2.2.2.1 (by omega) ?_
      cases hr2 : nu t 0 99 false (sk t i1 + 1) with
      | inl f =>
        rw [hr2] at k hn
        refine fun I4 f4 p4 => ⟨_, rfl, r_saysX hsh (h3.fl f4 p4 hn (P := P + 1) (by rw [List.length_append]; omega)) (fun I5 f5 l5 => ⟨rfl, k I5 ((f3.trans f4.qf).trans f5) l5⟩)⟩
      | inr q =>
        obtain ⟨j2, v⟩ := q
        rw [hr2] at k hn
        dsimp only at k
        refine fun I4 f4 p4 => ⟨_, rfl, r_says hsh (h3.mv f4 p4 hn.2.1) (by rw [List.length_append]; omega) (o := (7, v)) rfl (fun _ => rfl) (fun I5 f5 h5 => ⟨rfl, k I5 ((f3.trans f4.qf).trans f5) ?_⟩)⟩
        rw [List.append_assoc] at h5
        exact h5
    · rw [if_neg c1] at k
      exact brN c1 (k I2 (f1.trans f2.qf) h2)
end RLOOP
