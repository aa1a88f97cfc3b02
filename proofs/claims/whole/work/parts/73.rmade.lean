/-! the reference: functions -/
section RMADE
variable {d e : Nat} {g : qG} {I : qI} {J : qJ} {Q : qQ} {i a x S P : Nat} {t : List Nat} {ops : List (Nat × Nat)} {E : Nat → Nat → Rs} {op : Bool}
theorem r_f78 (hsh : qSh g) {w f : Nat} {b : Int32} (hw : w ≤ 16) (l : rFl I f S P) (k : ∀ I', rQF S I I' → rFl I' f S P → Q none g I' J) : qev (d + 3) 169 (78, [.ref 105, .int (nI w), .int b], [], g, I, J) Q := by
  have sh : qC (d + 2) 164 [.ref 105] g I J (fun v _ I' _ => v = none ∧ Q none g I' J) := r_shutX hsh l (fun I2 f2 l2 => ⟨rfl, k I2 f2 l2⟩)
  refine w169_78 hsh ?_
  rw [nI_eq (by omega) (by omega), nI_eq (by omega) (by omega)]
  by_cases h15 : w = 15
  · refine brT h15 (r_sgnX hsh l.ne ⟨rfl, brN l.ne (brN (by omega) (brN l.ne sh))⟩)
  · refine brN h15 ?_
    by_cases h16 : w = 16
    · exact brT h16 (w170 (w170_2 hsh (brN l.ne ⟨rfl, sh⟩)))
    · exact brN h16 (brN l.ne sh)
/-- the opening, an EXPR, and what follows it -/
theorem r_opE (hsh : qSh g) (hx8 : x ≤ 8) (hx : op = true ↔ x < 8) (hE : op = true → rEx t g 165 (x + 1) S (e + 3) E) (h : rRd t I i a x S ops) (hP : 4 * (ops.length + P) ≤ i + 8 * a) {w : Nat} {b : Int32} (hw : w ≤ 16)
    (k1 : tb t (sk t i) = 40 ∧ op = true → match E (sk t i + 1) a with
      | .inl f => ∀ I', rQF S I I' → rFl I' f S P → Q none g I' J
      | .inr q => ∀ I', rQF S I I' → rRd t I' q.1 q.2.1 (x + 1) S (ops ++ q.2.2) → qev (d + (e + 5)) 169 (78, [.ref 105, .int (nI w), .int b], [], g, I', J) Q)
    (k0 : ¬ (tb t (sk t i) = 40 ∧ op = true) → ∀ I', rQF S I I' → rFl I' (sk t i) S P → Q none g I' J) :
    qC (d + (e + 4)) 163 [.ref 105] g I J (fun v _ I1 _ => v = none ∧ (((I1 105 4) = (-1) → qC (d + (e + 4)) 165 [.ref 105] g I1 J (fun v _ I2 _ => v = none ∧ qev (d + (e + 5)) 169 (78, [.ref 105, .int (nI w), .int b], [], g, I2, J) Q)) ∧ (¬ (I1 105 4) = (-1) → qev (d + (e + 5)) 169 (78, [.ref 105, .int (nI w), .int b], [], g, I1, J) Q))) := by
  have hLn := h.1.2.1
  have h24 := h.2.2.2.2.2.1
  have hiL := h.2.2.1
  have q1 := sk_le t i
  refine r_open hsh hx8 h (P := P) (by omega) (fun c I1 f1 h1 => ⟨rfl, brT h1.2.2.2.1 ?_⟩) (fun c I1 f1 l1 => ⟨rfl, brN l1.ne (r_f78 hsh hw l1 (fun I2 f2 l2 => k0 (fun h => c ⟨h.1, hx.mp h.2⟩) I2 (f1.trans f2) l2))⟩)
  have k1 := k1 ⟨c.1, hx.mpr c.2⟩
  refine (hE (hx.mpr c.2)).up 1 d _ _ P _ _ _ _ h1 (by omega) ?_
  cases hr : E (sk t i + 1) a with
  | inl f => rw [hr] at k1; exact fun I2 f2 l2 => ⟨rfl, r_f78 hsh hw l2 (fun I3 f3 l3 => k1 I3 ((f1.trans f2).trans f3) l3)⟩
  | inr q =>
    obtain ⟨i1, a1, n1⟩ := q
    rw [hr] at k1
    exact fun I2 f2 h2 => ⟨rfl, k1 I2 (f1.trans f2) h2⟩
theorem r_fn (hsh : qSh g) (hx8 : x ≤ 8) (hx : op = true ↔ x < 8) (hE : op = true → rEx t g 165 (x + 1) S (e + 3) E) (hG : gdE t 3 E) (h : rRd t I i a x S ops) (hP : 4 * (ops.length + P) ≤ i + 8 * a) {w b : Nat} (hw : 8 ≤ w ∧ w ≤ 14) (k : rRes t g I J ops x S P Q (brF t E op i a [(w, b)])) :
    qC (d + (e + 4)) 163 [.ref 105] g I J (fun v _ I1 _ => v = none ∧ (((I1 105 4) = (-1) → qC (d + (e + 4)) 165 [.ref 105] g I1 J (fun v _ I2 _ => v = none ∧ qev (d + (e + 5)) 169 (78, [.ref 105, .int (nI w), .int (nI b)], [], g, I2, J) Q)) ∧ (¬ (I1 105 4) = (-1) → qev (d + (e + 5)) 169 (78, [.ref 105, .int (nI w), .int (nI b)], [], g, I1, J) Q))) := by
  have hLn := h.1.2.1
  have q1 := sk_le t i
  unfold brF at k
  refine r_opE hsh hx8 hx hE h hP (by omega) (fun c => ?_) (fun c => ?_)
  · rw [if_pos c] at k
    have hlt := tb_lt (t := t) (i := sk t i) (by omega)
    have hg := hG (sk t i + 1) a hlt h.2.2.2.2.2.1
    cases hr : E (sk t i + 1) a with
    | inl f => rw [hr] at k; exact k
    | inr q =>
      obtain ⟨i1, a1, n1⟩ := q
      rw [hr] at k hg
      obtain ⟨g1, g2, g3, g4, g5, g6, g7, g8⟩ := hg
      dsimp only at k ⊢
      refine fun I2 f2 h2 => w169_78 hsh (brN (by rw [nI_eq (by omega) (by omega)]; omega) (brN (by rw [nI_eq (by omega) (by omega)]; omega) (brT h2.2.2.2.1 ?_)))
      refine r_says hsh h2 (by rw [List.length_append]; omega) (o := (w, b)) rfl (fun _ => rfl) (fun I3 f3 h3 => ⟨rfl, ?_⟩)
      refine r_shut hsh h3 (P := P) (by simp only [List.length_append, List.length_cons, List.length_nil]; omega) ?_
      cases hs : sg t 41 i1 with
      | inl f => rw [hs] at k; exact fun I4 f4 l4 => ⟨rfl, k I4 ((f2.trans f3).trans f4) l4⟩
      | inr j =>
        rw [hs] at k
        refine fun I4 f4 h4 => ⟨rfl, k I4 ((f2.trans f3).trans f4) ?_⟩
        rw [List.append_assoc] at h4
        exact h4
  · rw [if_neg c] at k
    exact k
theorem r_fnC (hsh : qSh g) (hx8 : x ≤ 8) (hx : op = true ↔ x < 8) (hE : op = true → rEx t g 165 (x + 1) S (e + 3) E) (hG : gdE t 3 E) (h : rRd t I i a x S ops) (hP : 4 * (ops.length + P) ≤ i + 8 * a) (k : rRes t g I J ops x S P Q (cmF t E op i a)) :
    qC (d + (e + 4)) 163 [.ref 105] g I J (fun v _ I1 _ => v = none ∧ (((I1 105 4) = (-1) → qC (d + (e + 4)) 165 [.ref 105] g I1 J (fun v _ I2 _ => v = none ∧ qev (d + (e + 5)) 169 (78, [.ref 105, .int (nI 15), .int (nI 0)], [], g, I2, J) Q)) ∧ (¬ (I1 105 4) = (-1) → qev (d + (e + 5)) 169 (78, [.ref 105, .int (nI 15), .int (nI 0)], [], g, I1, J) Q))) := by
  have hLn := h.1.2.1
  have q1 := sk_le t i
  unfold cmF at k
  refine r_opE hsh hx8 hx hE h hP (by omega) (fun c => ?_) (fun c => ?_)
  · rw [if_pos c] at k
    have hlt := tb_lt (t := t) (i := sk t i) (by omega)
    have hg := hG (sk t i + 1) a hlt h.2.2.2.2.2.1
    cases hr : E (sk t i + 1) a with
    | inl f => rw [hr] at k; exact k
    | inr q =>
      obtain ⟨i1, a1, n1⟩ := q
      rw [hr] at k hg
      obtain ⟨g1, g2, g3, g4, g5, g6, g7, g8⟩ := hg
      dsimp only at k ⊢
      refine fun I2 f2 h2 => w169_78 hsh (brT rfl (r_sgn hsh h2.1 h2.2.1 h2.2.2.1 h2.2.2.2.1 (by omega) ?_))
      have hsg := sg_ok (t := t) (c := 44) g2 (by omega)
      cases hs : sg t 44 i1 with
      | inl f =>
        rw [hs] at k hsg
        refine fun I3 f3 p3 => ⟨rfl, ?_⟩
        have l3 := h2.fl f3 p3 hsg (P := P) (by rw [List.length_append]; omega)
        exact brN l3.ne (brN (by decide +kernel) (brN l3.ne (r_shutX hsh l3 (fun I4 f4 l4 => ⟨rfl, k I4 ((f2.trans f3.qf).trans f4) l4⟩))))
      | inr j =>
        rw [hs] at k hsg
        obtain ⟨s1, s2⟩ := hsg
        dsimp only at k
        refine fun I3 f3 p3 => ⟨rfl, ?_⟩
        have h3 := h2.mv f3 p3 s2
        have hg3 := hG j a1 s2 g4
        refine brT h3.2.2.2.1 ((hE c.2).up 1 d _ _ P _ _ _ _ h3 (by rw [List.length_append]; omega) ?_)
        cases hr3 : E j a1 with
        | inl f => rw [hr3] at k; exact fun I4 f4 l4 => ⟨rfl, brN (by decide +kernel) (brN l4.ne (r_shutX hsh l4 (fun I5 f5 l5 => ⟨rfl, k I5 (((f2.trans f3.qf).trans f4).trans f5) l5⟩)))⟩
        | inr q =>
          obtain ⟨i3, a3, n3⟩ := q
          rw [hr3] at k hg3
          obtain ⟨m1, m2, m3, m4, m5, m6, m7, m8⟩ := hg3
          dsimp only at k
          refine fun I4 f4 h4 => ⟨rfl, brN (by decide +kernel) (brT h4.2.2.2.1 ?_)⟩
          refine r_says hsh h4 (by simp only [List.length_append]; omega) (o := (15, 0)) rfl (fun _ => rfl) (fun I5 f5 h5 => ⟨rfl, ?_⟩)
          refine r_shut hsh h5 (P := P) (by simp only [List.length_append, List.length_cons, List.length_nil]; omega) ?_
          cases hs5 : sg t 41 i3 with
          | inl f => rw [hs5] at k; exact fun I6 f6 l6 => ⟨rfl, k I6 ((((f2.trans f3.qf).trans f4).trans f5).trans f6) l6⟩
          | inr j =>
            rw [hs5] at k
            refine fun I6 f6 h6 => ⟨rfl, k I6 ((((f2.trans f3.qf).trans f4).trans f5).trans f6) ?_⟩
            simp only [List.append_assoc] at h6 ⊢
            exact h6
  · rw [if_neg c] at k
    exact k
theorem r_hl (hsh : qSh g) (hE : rEx t g 165 (x + 1) S (e + 3) E) (hG : gdE t 3 E) {I0 : qI} {i0 a0 : Nat} (hP : 4 * (ops.length + P) ≤ i0 + 8 * a0) : ∀ (f c i a : Nat) (acc : List (Nat × Nat)) (I : qI), c + f = 6 → 1 ≤ c → rRd t I i a (x + 1) S (ops ++ acc) → 4 * acc.length + 3 + i0 + 8 * a0 ≤ i + 8 * a → rQF S I0 I → rRes t g I0 J ops x S P Q (hL t E f c i a acc) → qev (d + (e + 4)) 170 (2, [.ref 105, .int (nI c)], [], g, I, J) (fun v _ I' _ => v = none ∧ qC (d + (e + 4)) 164 [.ref 105] g I' J (fun v _ I'' _ => v = none ∧ Q none g I'' J))
  | 0, c, i, a, acc, I, hc, hc1, h, hl, f0, k => by
    have hLn := h.1.2.1
    have h24 := h.2.2.2.2.2.1
    have hi := h.2.2.1
    unfold hL at k
    refine w170_2 hsh (brT h.2.2.2.1 (brN (by rw [nI_eq (by omega) (by omega)]; omega) (brT (by rw [nI_leI (by omega) (by omega)]; omega) ⟨rfl, r_shut hsh h (P := P) (by rw [List.length_append]; omega) ?_⟩)))
    cases hs : sg t 41 i with
    | inl f => rw [hs] at k; exact fun I4 f4 l4 => ⟨rfl, k I4 (f0.trans f4) l4⟩
    | inr j => rw [hs] at k; exact fun I4 f4 h4 => ⟨rfl, k I4 (f0.trans f4) h4⟩
  | f + 1, c, i, a, acc, I, hc, hc1, h, hl, f0, k => by
    have hLn := h.1.2.1
    have h24 := h.2.2.2.2.2.1
    have hi := h.2.2.1
    have hb := h.1.2.2.2 (sk t i)
    unfold hL at k
    have go : ∀ (I1 : qI) (i1 : Nat), i ≤ i1 → rRd t I1 i1 a (x + 1) S (ops ++ acc) → rQF S I0 I1 → sk t i1 = sk t i → ¬ (2 ≤ c ∧ tb t (sk t i) = 41) → qev (d + (e + 4)) 170 (30, [.ref 105, .int (nI c)], [], g, I1, J) (fun v _ I' _ => v = none ∧ qC (d + (e + 4)) 164 [.ref 105] g I' J (fun v _ I'' _ => v = none ∧ Q none g I'' J)) := fun I1 i1 hii h1 f1 e1 hn => by
      rw [if_neg hn] at k
      have es : sg t 44 i1 = sg t 44 i := by unfold sg; rw [e1]
      refine w170_30 hsh (r_sgn hsh h1.1 h1.2.1 h1.2.2.1 h1.2.2.2.1 (by omega) ?_)
      have hsg := sg_ok (t := t) (c := 44) h1.2.2.1 (by omega)
      rw [es] at hsg ⊢
      cases hs : sg t 44 i with
      | inl z =>
        rw [hs] at k hsg
        refine fun I2 f2 p2 => ⟨rfl, ?_⟩
        have l2 := h1.fl f2 p2 hsg (P := P) (by rw [List.length_append]; omega)
        exact brN l2.ne (brN l2.ne (w170_2 hsh (brN l2.ne ⟨rfl, r_shutX hsh l2 (fun I3 f3 l3 => ⟨rfl, k I3 ((f1.trans f2.qf).trans f3) l3⟩)⟩)))
      | inr j =>
        rw [hs] at k hsg
        obtain ⟨s1, s2⟩ := hsg
        dsimp only at k
        refine fun I2 f2 p2 => ⟨rfl, ?_⟩
        have h2 := h1.mv f2 p2 s2
        have hg := hG j a s2 h24
        refine brT h2.2.2.2.1 (hE d _ _ P _ _ _ _ h2 (by rw [List.length_append]; omega) ?_)
        cases hr : E j a with
        | inl z =>
          rw [hr] at k
          exact fun I3 f3 l3 => ⟨rfl, brN l3.ne (w170_2 hsh (brN l3.ne ⟨rfl, r_shutX hsh l3 (fun I4 f4 l4 => ⟨rfl, k I4 (((f1.trans f2.qf).trans f3).trans f4) l4⟩)⟩))⟩
        | inr q =>
          obtain ⟨i3, a3, n3⟩ := q
          rw [hr] at k hg
          obtain ⟨m1, m2, m3, m4, m5, m6, m7, m8⟩ := hg
          dsimp only at k
          refine fun I3 f3 h3 => ⟨rfl, brT h3.2.2.2.1 (r_says hsh h3 (by simp only [List.length_append]; omega) (o := (16, 0)) rfl (fun _ => rfl) (fun I4 f4 h4 => ⟨rfl, ?_⟩))⟩
          rw [nI_add]
          refine r_hl hsh hE hG hP f (c + 1) i3 a3 _ I4 (by omega) (by omega) ?_ (by simp only [List.length_append, List.length_cons, List.length_nil]; omega) (((f1.trans f2.qf).trans f3).trans f4) k
          simp only [List.append_assoc] at h4 ⊢
          exact h4
    refine w170_2 hsh (brT h.2.2.2.1 ?_)
    rw [nI_eq (by omega) (by omega)]
    by_cases c2 : c = 1
    · exact brT c2 (go I i (Nat.le_refl _) h f0 rfl (by omega))
    · refine brN c2 (brN (by rw [nI_leI (by omega) (by omega)]; omega) (r_lookR hsh h (fun I1 f1 h1 => ⟨_, rfl, ?_⟩)))
      rw [rlk_eq hb (by omega)]
      by_cases h44 : tb t (sk t i) = 44
      · exact brT h44 (go I1 (sk t i) (sk_le t i) h1 (f0.trans f1.qf) (sk_sk t i) (by omega))
      · refine brN h44 ⟨rfl, r_shut hsh h1 (P := P) (by rw [List.length_append]; omega) ?_⟩
        unfold sg at k ⊢
        rw [sk_sk]
        by_cases h41 : tb t (sk t i) = 41
        · rw [if_pos ⟨by omega, h41⟩] at k
          rw [if_pos h41]
          exact fun I4 f4 h4 => ⟨rfl, k I4 ((f0.trans f1.qf).trans f4) h4⟩
        · rw [if_neg (fun h => h41 h.2), if_neg h44] at k
          rw [if_neg h41]
          exact fun I4 f4 l4 => ⟨rfl, k I4 ((f0.trans f1.qf).trans f4) l4⟩
theorem r_fnH (hsh : qSh g) (hx8 : x ≤ 8) (hx : op = true ↔ x < 8) (hE : op = true → rEx t g 165 (x + 1) S (e + 3) E) (hG : gdE t 3 E) (h : rRd t I i a x S ops) (hP : 4 * (ops.length + P) ≤ i + 8 * a) (k : rRes t g I J ops x S P Q (hF t E op i a)) :
    qC (d + (e + 4)) 163 [.ref 105] g I J (fun v _ I1 _ => v = none ∧ (((I1 105 4) = (-1) → qC (d + (e + 4)) 165 [.ref 105] g I1 J (fun v _ I2 _ => v = none ∧ qev (d + (e + 5)) 169 (78, [.ref 105, .int (nI 16), .int (nI 0)], [], g, I2, J) Q)) ∧ (¬ (I1 105 4) = (-1) → qev (d + (e + 5)) 169 (78, [.ref 105, .int (nI 16), .int (nI 0)], [], g, I1, J) Q))) := by
  have q1 := sk_le t i
  unfold hF at k
  refine r_opE hsh hx8 hx hE h hP (by omega) (fun c => ?_) (fun c => ?_)
  · rw [if_pos c] at k
    have hlt := tb_lt (t := t) (i := sk t i) (by omega)
    have hg := hG (sk t i + 1) a hlt h.2.2.2.2.2.1
    cases hr : E (sk t i + 1) a with
    | inl f => rw [hr] at k; exact k
    | inr q =>
      obtain ⟨i1, a1, n1⟩ := q
      rw [hr] at k hg
      obtain ⟨g1, g2, g3, g4, g5, g6, g7, g8⟩ := hg
      dsimp only at k ⊢
      exact fun I2 f2 h2 => w169_78 hsh (brN (by decide +kernel) (brT rfl (w170 (r_hl hsh (hE c.2) hG (i0 := sk t i + 1) (a0 := a) (by omega) 5 1 i1 a1 n1 I2 (by omega) (by omega) h2 g6 f2 k))))
  · rw [if_neg c] at k
    exact k
end RMADE
