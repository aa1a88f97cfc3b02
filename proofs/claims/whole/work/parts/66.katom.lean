/-! the class reads atoms and powers -/
section KATOM
variable {d e : Nat} {g : qG} {I : qI} {J : qJ} {Q : qQ} {i a x : Nat} {t : List Nat} {ops : List (Nat × Nat)} {E : Nat → Nat → Rs} {op : Bool}
theorem kEx.up {m : Nat} (h : kEx t g m x e E) (k : Nat) : kEx t g m x (e + k) E := fun d i a ops I J Q h1 h2 => by
  rw [show d + (e + k) = d + k + e by omega]
  exact h (d + k) i a ops I J Q h1 h2
theorem k_fun (hsh : qSh g) (hx8 : x ≤ 8) (hx : op = true ↔ x < 8) (hE : op = true → kEx t g 53 (x + 1) (e + 1) E) (hG : gdE t 3 E) (h : kRd t I i a ops) {c : Nat} (hc : c < 256) (hi : 67 ≤ c → i < t.length) (k : kRes t g I J ops Q (fuF t E op c i a)) : qC (d + (e + 4)) 57 [.ref 11, .int (nI c), .int (nI x)] g I J Q := by
  have q : ∀ {m : Nat}, m < 256 → nI c = nI m → c = m := fun {m} hm h => (nI_eq (by omega) (by omega)).mp h
  have bl : ∀ {r : Rs}, kRes t g I J ops Q r → kRes t g I J ops (fun v _ I' _ => ∃ r, v = some (.int r) ∧ (r = 0 ∨ r = 1) ∧ Q (some (.int r)) g I' J) r := fun {r} k => by
    cases r with
    | inl f => exact fun I' h1 h2 => ⟨_, rfl, Or.inl nI_0, k I' h1 h2⟩
    | inr r => exact fun I' h1 h2 => ⟨_, rfl, Or.inr nI_one, k I' h1 h2⟩
  refine w57 hsh ⟨fun hh => ?_, fun hh => ?_, fun hh => ?_, fun hh => ?_, fun hh => ?_, fun hh => ?_, fun hh => ?_, fun hh => ?_, fun hh => ?_, fun hh => ?_, fun hh => ?_, fun hh => ?_, fun hh => ?_, fun hh => ?_, fun hh => ?_, fun hh => ?_, fun hh => ?_, fun hh => ?_, fun hh => ?_⟩
  · have hh := q (by omega) hh; subst hh
    have hi := hi (by omega)
    have k : kRes t g I J ops Q (cmF t E op (i + 1) a) := k
    have h' := h.step hi
    unfold cmF at k
    refine k_open hsh hx8 h' (fun c I1 f1 h1 => ⟨_, rfl, br1 ?_⟩) (fun c I1 f1 p1 => ⟨_, rfl, br0 ?_⟩)
    · have f1 := (kNF.w2.trans f1).rf
      rw [if_pos ⟨c.1, hx.mpr c.2⟩] at k
      rw [nI_add]
      have hE := hE (hx.mpr c.2)
      have hg := hG (sk t (i + 1) + 1) a h1.2.2.1 h1.2.2.2.2.1
      have h6 := h.2.2.2.2.2.2.1
      have q1 := sk_le t (i + 1)
      refine (hE.up 2) d _ _ _ _ _ _ h1 ?_
      cases hr : E (sk t (i + 1) + 1) a with
      | inl f => rw [hr] at k; exact fun I' f2 p2 => ⟨_, rfl, br0 (k I' (f1.trans f2) p2)⟩
      | inr q =>
        obtain ⟨i1, a1, n1⟩ := q
        rw [hr] at k hg
        dsimp only at k
        have hl : n1.length + (sk t (i + 1) + 1) ≤ i1 := hg.2.2.2.2.1
        refine fun I2 f2 h2 => ⟨_, rfl, br1 (k_sign hsh h2.1 h2.2.1 h2.2.2.1 (by omega) ?_)⟩
        have hsg := sg_ok (t := t) (c := 44) h2.2.2.1 (by omega)
        cases hs : sg t 44 i1 with
        | inl f => rw [hs] at k; exact fun I' f3 p3 _ => ⟨_, rfl, br0 (k I' ((f1.trans f2).trans f3.rf) p3)⟩
        | inr j =>
          rw [hs] at k hsg
          dsimp only at k
          have hsg1 : i1 < j := hsg.1
          refine fun I3 f3 p3 => ⟨_, rfl, br1 ?_⟩
          have h3 := h2.mv f3 p3 (Nat.le_of_lt hsg.1) hsg.2
          have hg2 := hG j a1 h3.2.2.1 h3.2.2.2.2.1
          refine (hE.up 2) d _ _ _ _ _ _ h3 ?_
          cases hr2 : E j a1 with
          | inl f => rw [hr2] at k; exact fun I' f4 p4 => ⟨_, rfl, br0 (k I' (((f1.trans f2).trans f3.rf).trans f4) p4)⟩
          | inr q =>
            obtain ⟨i3, a3, n3⟩ := q
            rw [hr2] at k hg2
            dsimp only at k
            have hl2 : n3.length + j ≤ i3 := hg2.2.2.2.2.1
            refine fun I4 f4 h4 => ⟨_, rfl, br1 (k_sign hsh h4.1 h4.2.1 h4.2.2.1 (by omega) ?_)⟩
            have hsg2 := sg_ok (t := t) (c := 41) h4.2.2.1 (by omega)
            cases hs2 : sg t 41 i3 with
            | inl f => rw [hs2] at k; exact fun I' f5 p5 _ => ⟨_, rfl, br0 (k I' ((((f1.trans f2).trans f3.rf).trans f4).trans f5.rf) p5)⟩
            | inr j2 =>
              rw [hs2] at k hsg2
              have hsg3 : i3 < j2 := hsg2.1
              refine fun I5 f5 p5 => ⟨_, rfl, br1 (k_add hsh (h4.mv f5 p5 (Nat.le_of_lt hsg2.1) hsg2.2) (by simp only [List.length_append]; omega) (o := (15, 0)) rfl rfl (fun I6 h6 f6 => ⟨_, rfl, br1 (k I6 (((((f1.trans f2).trans f3.rf).trans f4).trans f5.rf).trans f6) ?_)⟩))⟩
              simp only [List.append_assoc] at h6 ⊢
              exact h6
    · rw [if_neg (fun h => c ⟨h.1, hx.mp h.2⟩)] at k
      exact k I1 (kNF.w2.trans f1).rf p1
  · have hh := q (by omega) hh; subst hh
    exact k_one58 (w := 8) hsh hx8 hx hE hG h (hi (by omega)) (bl k)
  · have hh := q (by omega) hh; subst hh
    exact k_one58 (w := 11) hsh hx8 hx hE hG h (hi (by omega)) (bl k)
  · have hh := q (by omega) hh; subst hh
    exact k I (kRF.refl I) h.2.1
  · have hh := q (by omega) hh; subst hh
    exact k I (kRF.refl I) h.2.1
  · have hh := q (by omega) hh; subst hh
    have hi := hi (by omega)
    have k : kRes t g I J ops Q (hF t E op (i + 1) a) := k
    have h' := h.step hi
    unfold hF at k
    refine k_open hsh hx8 h' (fun c I1 f1 h1 => ⟨_, rfl, br1 ?_⟩) (fun c I1 f1 p1 => ⟨_, rfl, br0 ?_⟩)
    · have f1 := (kNF.w2.trans f1).rf
      rw [if_pos ⟨c.1, hx.mpr c.2⟩] at k
      rw [nI_add]
      have hE := hE (hx.mpr c.2)
      have bl1 : ∀ {r : Rs}, kRes t g I1 J ops Q r → kRes t g I1 J ops (fun v _ I' _ => ∃ r, v = some (.int r) ∧ ((r = 0 → Q (some (.int (nI 0))) g I' J) ∧ (¬ r = 0 → Q (some (.int (nI 1))) g I' J))) r := fun {r} k => by
        cases r with
        | inl f => exact fun I' h1 h2 => ⟨_, rfl, br0 (k I' h1 h2)⟩
        | inr r => exact fun I' h1 h2 => ⟨_, rfl, br1 (k I' h1 h2)⟩
      exact k_mat (d := d) (e := e + 1) hsh (hE.up 1) hG h1 (bl1 (k.fr f1))
    · rw [if_neg (fun h => c ⟨h.1, hx.mp h.2⟩)] at k
      exact k I1 (kNF.w2.trans f1).rf p1
  · have hh := q (by omega) hh; subst hh
    exact k I (kRF.refl I) h.2.1
  · have hh := q (by omega) hh; subst hh
    exact k I (kRF.refl I) h.2.1
  · have hh := q (by omega) hh; subst hh
    exact k I (kRF.refl I) h.2.1
  · have hh := q (by omega) hh; subst hh
    exact k_one58 (w := 10) hsh hx8 hx hE hG h (hi (by omega)) (bl k)
  · have hh := q (by omega) hh; subst hh
    exact k I (kRF.refl I) h.2.1
  · have hh := q (by omega) hh; subst hh
    exact k I (kRF.refl I) h.2.1
  · have hh := q (by omega) hh; subst hh
    exact k I (kRF.refl I) h.2.1
  · have hh := q (by omega) hh; subst hh
    exact k I (kRF.refl I) h.2.1
  · have hh := q (by omega) hh; subst hh
    exact k_root59 hsh hx8 hx hE hG h (hi (by omega)) (bl k)
  · have hh := q (by omega) hh; subst hh
    exact k_one58 (w := 12) hsh hx8 hx hE hG h (hi (by omega)) (bl k)
  · have hh := q (by omega) hh; subst hh
    exact k_one58 (w := 9) hsh hx8 hx hE hG h (hi (by omega)) (bl k)
  · have hh := q (by omega) hh; subst hh
    exact k_short60 hsh hx8 hx hE hG h (hi (by omega)) (bl k)
  · have e9 : fuF t E op c i a = .inl i := by
      unfold fuF
      split <;> first
        | rfl
        | (exfalso; simp at hh)
    rw [e9] at k
    exact k I (kRF.refl I) h.2.1
theorem k_56 (hsh : qSh g) (hx8 : x ≤ 8) (hx : op = true ↔ x < 8) (hE : op = true → kEx t g 53 (x + 1) (e + 1) E) (hG : gdE t 3 E) : kEx t g 56 x (e + 5) (atF t E op) := by
  intro d i a ops I J Q h k
  have bl : ∀ {I : qI} {r : Rs}, kRes t g I J ops Q r → kRes t g I J ops (fun v _ I' _ => ∃ r, v = some (.int r) ∧ (r = 0 ∨ r = 1) ∧ Q (some (.int r)) g I' J) r := fun {I r} k => by
    cases r with
    | inl f => exact fun I' h1 h2 => ⟨_, rfl, Or.inl nI_0, k I' h1 h2⟩
    | inr r => exact fun I' h1 h2 => ⟨_, rfl, Or.inr nI_one, k I' h1 h2⟩
  have hb := h.1.2.2.2 (sk t i)
  have h4 := h.2.2.2.2.1
  have h6 := h.2.2.2.2.2.2.1
  have q1 := sk_le t i
  unfold atF at k
  refine w56 hsh (k_nextR hsh h (fun I1 f1 h1 => ⟨_, rfl, ?_⟩))
  rw [nI_eq (by omega) (by omega), h1.2.2.2.1, nI_ltI (by omega) (by omega), nI_ltI (by omega) (by omega), nI_ltI (by omega) (by omega)]
  by_cases c1 : tb t (sk t i) = 40
  · rw [if_pos c1] at k
    have e1 : brF t E op (sk t i) a [] = brF t E op i a [] := by unfold brF; rw [sk_sk]
    rw [← e1] at k
    exact brT c1 (k_brk (e := e + 2) hsh hx8 hx (fun o => (hE o).up 2) d _ _ _ _ _ _ h1 (bl (k.fr f1.rf)))
  · rw [if_neg c1] at k
    refine brN c1 ?_
    by_cases c2 : 24 ≤ a
    · rw [if_pos c2] at k
      exact brN (by omega) (k I1 f1.rf h1.2.1)
    · rw [if_neg c2] at k
      refine brT (by omega) ?_
      have h2 := h1.a1 (show a < 24 by omega)
      rw [h1.2.2.2.1] at h2
      have f2 : kRF I (qw I1 11 3 (nI a + nI 1)) := f1.rf.trans kRF.w3
      have rest : ¬ (48 ≤ tb t (sk t i) ∧ tb t (sk t i) ≤ 57) → qev (d + (e + 5)) 56 (82, [.ref 11, .int (nI x), .int (nI (tb t (sk t i)))], [], g, qw I1 11 3 (nI a + nI 1), J) Q := fun hn => by
        rw [if_neg hn] at k
        refine w56_82 hsh ?_
        rw [nI_eq (by omega) (by omega), nI_ltI (by omega) (by omega), nI_ltI (by omega) (by omega)]
        by_cases c3 : tb t (sk t i) = 120
        · rw [if_pos c3] at k
          refine brT c3 (k_add hsh (h2.step (tb_lt (by omega))) (by omega) (o := (1, 0)) rfl rfl (fun I3 h3 f3 => ⟨_, rfl, Or.inr nI_one, k I3 ((f2.trans kNF.w2.rf).trans f3) h3⟩))
        · rw [if_neg c3] at k
          refine brN c3 ?_
          have fn : ¬ (97 ≤ tb t (sk t i) ∧ tb t (sk t i) ≤ 104) → qC (d + (e + 4)) 57 [.ref 11, .int (nI (tb t (sk t i))), .int (nI x)] g (qw I1 11 3 (nI a + nI 1)) J (fun v _ I' _ => ∃ r, v = some (.int r) ∧ (r = 0 ∨ r = 1) ∧ Q (some (.int r)) g I' J) := fun hn2 => by
            rw [if_neg hn2] at k
            exact k_fun hsh hx8 hx hE hG h2 hb (fun h => tb_lt (by omega)) (bl (k.fr f2))
          by_cases c4 : tb t (sk t i) < 97
          · exact brT c4 (fn (by omega))
          · refine brN c4 ?_
            by_cases c5 : 104 < tb t (sk t i)
            · exact brT c5 (fn (by omega))
            · rw [if_pos (by omega)] at k
              rw [pk_sub (by omega)]
              exact brN c5 (k_add hsh (h2.step (tb_lt (by omega))) (by omega) (o := (2, tb t (sk t i) - 97)) rfl rfl (fun I3 h3 f3 => ⟨_, rfl, Or.inr nI_one, k I3 ((f2.trans kNF.w2.rf).trans f3) h3⟩))
      by_cases c3 : tb t (sk t i) < 48
      · exact brT c3 (rest (by omega))
      · refine brN c3 ?_
        by_cases c4 : 57 < tb t (sk t i)
        · exact brT c4 (rest (by omega))
        · refine brN c4 ?_
          rw [if_pos (by omega)] at k
          have e1 : nu t 0 999 false (sk t i) = nu t 0 999 false i := by unfold nu; rw [sk_sk]
          have hn := nu_ok (t := t) (lo := 0) (hi := 999) (pb := false) (i := sk t i) h1.2.2.1
          refine k_num hsh h2.1 h2.2.1 h2.2.2.1 (by omega) ?_
          rw [e1] at hn ⊢
          cases hr : nu t 0 999 false i with
          | inl f => rw [hr] at k; exact fun I3 f3 p3 => ⟨_, rfl, br0 (k I3 (f2.trans f3.rf) p3)⟩
          | inr q =>
            obtain ⟨j2, v⟩ := q
            rw [hr] at k hn
            dsimp only at k
            have hn1 : sk t i < j2 := hn.1
            refine fun I3 f3 p3 p4 => ⟨_, rfl, br1 (k_add hsh (h2.mv f3 p3 (Nat.le_of_lt hn.1) hn.2.1) (by show _ + 1 ≤ j2; omega) (o := (0, v)) rfl p4 (fun I4 h4 f4 => ⟨_, rfl, br1 (k I4 ((f2.trans f3.rf).trans f4) h4)⟩))⟩
theorem k_55 (hsh : qSh g) (hx8 : x ≤ 8) (hx : op = true ↔ x < 8) (hE : op = true → kEx t g 53 (x + 1) (e + 1) E) (hG : gdE t 3 E) : kEx t g 55 x (e + 6) (poF t E op) := by
  intro d i a ops I J Q h k
  have h6 := h.2.2.2.2.2.2.1
  have hg := at_ok (op := op) hG i a h.2.2.1 h.2.2.2.2.1
  unfold poF at k
  refine w55 hsh (k_56 hsh hx8 hx hE hG d i a ops I J _ h ?_)
  cases hr : atF t E op i a with
  | inl f => rw [hr] at k; exact fun I' f2 p2 => ⟨_, rfl, br0 (k I' f2 p2)⟩
  | inr q =>
    obtain ⟨i1, a1, n1⟩ := q
    rw [hr] at k hg
    dsimp only at k
    have hl : n1.length + i ≤ i1 := hg.2.2.2.2.1
    refine fun I1 f1 h1 => ⟨_, rfl, br1 (k_sign hsh h1.1 h1.2.1 h1.2.2.1 (by omega) ?_)⟩
    have q1 := sk_le t i1
    have q2 := sk_L h1.2.2.1
    unfold sg
    by_cases c1 : tb t (sk t i1) = 94
    · rw [if_pos c1] at k ⊢
      refine fun I2 f2 p2 => ⟨_, rfl, br1 ?_⟩
      have hlt := tb_lt (t := t) (i := sk t i1) (by omega)
      have h2 := h1.mv f2 p2 (by omega) (by omega)
      have hn := nu_ok (t := t) (lo := 0) (hi := 99) (pb := false) (i := sk t i1 + 1) (by omega)
      refine k_num hsh h2.1 h2.2.1 h2.2.2.1 (by omega) ?_
      cases hr2 : nu t 0 99 false (sk t i1 + 1) with
      | inl f => rw [hr2] at k; exact fun I3 f3 p3 => ⟨_, rfl, br0 (k I3 ((f1.trans f2.rf).trans f3.rf) p3)⟩
      | inr q =>
        obtain ⟨j2, v⟩ := q
        rw [hr2] at k hn
        dsimp only at k
        have hn1 : sk t i1 + 1 < j2 := hn.1
        refine fun I3 f3 p3 p4 => ⟨_, rfl, br1 (k_add hsh (h2.mv f3 p3 (Nat.le_of_lt hn.1) hn.2.1) (by rw [List.length_append]; show _ + 1 ≤ j2; omega) (o := (7, v)) rfl p4 (fun I4 h4 f4 => ⟨_, rfl, br1 (k I4 (((f1.trans f2.rf).trans f3.rf).trans f4) ?_)⟩))⟩
        rw [List.append_assoc] at h4
        exact h4
    · rw [if_neg c1] at k ⊢
      exact fun I2 f2 p2 _ => ⟨_, rfl, br0 (k I2 (f1.trans f2.rf) (h1.mv f2 p2 (by omega) (by omega)))⟩
theorem k_exF (hsh : qSh g) (hx8 : x ≤ 8) (hx : op = true ↔ x < 8) (hE : op = true → kEx t g 53 (x + 1) (e + 1) E) (hG : gdE t 3 E) : kEx t g 53 x (e + 7 + 1) (exF t E op) :=
  k_53 hsh (k_54 hsh (k_55 hsh hx8 hx hE hG) (po_ok hG)) (te_ok hG)
theorem k_exD (hsh : qSh g) (t : List Nat) : ∀ n, n ≤ 8 → kEx t g 53 (8 - n) (7 * n + 7 + 1) (exD t n)
  | 0, _ => k_exF (e := 0) hsh (by omega) ⟨fun h => (by cases h), fun h => (by omega)⟩ (fun h => (by cases h)) (fun i a hi _ => hi)
  | n + 1, hn => by
    have ih := k_exD hsh t n (by omega)
    rw [show 8 - n = 8 - (n + 1) + 1 by omega] at ih
    exact k_exF (e := 7 * n + 7) hsh (by omega) ⟨fun _ => (by omega), fun _ => rfl⟩ (fun _ => ih) (exD_ok t n)
end KATOM
