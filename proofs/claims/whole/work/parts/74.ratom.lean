/-! the reference: atoms, and expressions whole -/
theorem q3_bd : ∀ z, z < 9 → 67 ≤ (qstr 3).getD z 0 ∧ (qstr 3).getD z 0 ≤ 84 := by decide
theorem q2_at : ∀ z, z < 8 → (qstr 2).getD z 0 = 97 + z := by decide
theorem fu_no {t : List Nat} {E : Nat → Nat → Rs} {op : Bool} {c j a : Nat} (n : ∀ z, z < 9 → c ≠ (qstr 3).getD z 0) : fuF t E op c j a = .inl j := by
  have n0 : c ≠ 68 := n 0 (by omega)
  have n1 : c ≠ 83 := n 1 (by omega)
  have n2 : c ≠ 76 := n 2 (by omega)
  have n3 : c ≠ 69 := n 3 (by omega)
  have n4 : c ≠ 82 := n 4 (by omega)
  have n5 : c ≠ 81 := n 5 (by omega)
  have n6 : c ≠ 84 := n 6 (by omega)
  have n7 : c ≠ 67 := n 7 (by omega)
  have n8 : c ≠ 72 := n 8 (by omega)
  unfold fuF
  split <;> first
    | rfl
    | contradiction
theorem rRd.a1 {t : List Nat} {I : qI} {i a x S : Nat} {ops : List (Nat × Nat)} (h : rRd t I i a x S ops) (h1 : a < 24) : rRd t (qw I 105 16 (I 105 16 + nI 1)) i (a + 1) x S ops := by
  obtain ⟨hT, p1, p2, p3, p4, p5, p6, p7, p8, p9⟩ := h
  exact ⟨hT.keep (zu_k (by omega)) (zu_a (by omega)), by rw [zu_k (by omega)]; exact p1, p2, by rw [zu_k (by omega)]; exact p3, by rw [zu_s, p4, nI_add], by omega, by rw [zu_k (by omega)]; exact p6, by rw [zu_k (by omega)]; exact p7, p8, p9.keep (zu_a (by omega)) (zu_a (by omega))⟩
theorem rRd.step {t : List Nat} {I : qI} {i a x S : Nat} {ops : List (Nat × Nat)} (h : rRd t I i a x S ops) (hi : i < t.length) : rRd t (qw I 105 3 (I 105 3 + nI 1)) (i + 1) a x S ops := h.mv rNF.w3 (by rw [zu_s, h.2.1, nI_add]) hi
section RATOM
variable {d e : Nat} {g : qG} {I : qI} {J : qJ} {Q : qQ} {i a x S P : Nat} {t : List Nat} {ops : List (Nat × Nat)} {E : Nat → Nat → Rs} {op : Bool}
theorem r_reg {q : Nat} (hb : tb t q < 256) (k1 : 97 ≤ tb t q ∧ tb t q ≤ 104 → Q (some (.int (nI (tb t q - 97)))) g I J) (k0 : ¬ (97 ≤ tb t q ∧ tb t q ≤ 104) → Q (some (.int (-1))) g I J) : qC d 157 [.ref 2, .int (rlk t q)] g I J Q := by
  refine w157 (r_spot_l (z := 2) (by omega) 8 0 rfl (fun j hj _ e _ => ?_) (fun n => k0 (fun h => ?_)))
  · have hj : j < 8 := hj
    rw [q2_at j hj] at e
    have := (rlk_eq hb (by omega)).mp e.symm
    have k1 := k1 (by omega)
    rw [show tb t q - 97 = j by omega] at k1
    exact k1
  · refine n (tb t q - 97) (show _ < 8 by omega) (by omega) ?_
    rw [q2_at _ (by omega), (rlk_eq hb (by omega)).mpr (show tb t q = 97 + (tb t q - 97) by omega)]
theorem r_fnl {q : Nat} (hb : tb t q < 256) (k1 : ∀ z, z < 9 → tb t q = (qstr 3).getD z 0 → Q (some (.int (nI z))) g I J) (k0 : (∀ z, z < 9 → tb t q ≠ (qstr 3).getD z 0) → Q (some (.int (-1))) g I J) : qC d 157 [.ref 3, .int (rlk t q)] g I J Q := by
  refine w157 (r_spot_l (z := 3) (by omega) 9 0 rfl (fun j hj _ e _ => k1 j hj ?_) (fun n => k0 (fun z hz h => n z hz (by omega) ?_)))
  · have := q3_bd j hj
    exact (rlk_eq hb (by omega)).mp e.symm
  · have := q3_bd z hz
    exact ((rlk_eq hb (by omega)).mpr h).symm
theorem r_169 (hsh : qSh g) (hx8 : x ≤ 8) (hx : op = true ↔ x < 8) (hE : op = true → rEx t g 165 (x + 1) S (e + 3) E) (hG : gdE t 3 E) {j : Nat} (h : rRd t I (j + 1) a x S ops) (hP : 4 * (ops.length + P) ≤ j + 1 + 8 * a) {z : Nat} (hz : z < 9) (k : rRes t g I J ops x S P Q (fuF t E op ((qstr 3).getD z 0) j a)) : qC (d + (e + 5)) 169 [.ref 105, .int (nI (8 + z))] g I J Q := by
  have hLn := h.1.2.1
  have hiL := h.2.2.1
  have h24 := h.2.2.2.2.2.1
  have hd : z = 0 ∨ z = 1 ∨ z = 2 ∨ z = 3 ∨ z = 4 ∨ z = 5 ∨ z = 6 ∨ z = 7 ∨ z = 8 := by omega
  rcases hd with rfl | rfl | rfl | rfl | rfl | rfl | rfl | rfl | rfl
  · exact w169 hsh (brN (by decide +kernel) (brN (by decide +kernel) (r_fn (w := 8) (b := 0) hsh hx8 hx hE hG h hP (by omega) k)))
  · exact w169 hsh (brN (by decide +kernel) (brN (by decide +kernel) (r_fn (w := 9) (b := 0) hsh hx8 hx hE hG h hP (by omega) k)))
  · exact w169 hsh (brN (by decide +kernel) (brN (by decide +kernel) (r_fn (w := 10) (b := 0) hsh hx8 hx hE hG h hP (by omega) k)))
  · exact w169 hsh (brN (by decide +kernel) (brN (by decide +kernel) (r_fn (w := 11) (b := 0) hsh hx8 hx hE hG h hP (by omega) k)))
  · exact w169 hsh (brN (by decide +kernel) (brN (by decide +kernel) (r_fn (w := 12) (b := 0) hsh hx8 hx hE hG h hP (by omega) k)))
  · have k : rRes t g I J ops x S P Q (if 50 ≤ tb t (sk t (j + 1)) ∧ tb t (sk t (j + 1)) ≤ 57 then brF t E op (sk t (j + 1) + 1) a [(13, tb t (sk t (j + 1)) - 48)] else .inl (sk t (j + 1))) := k
    have hb := h.1.2.2.2 (sk t (j + 1))
    have q1 := sk_le t (j + 1)
    refine w169 hsh (brT rfl (r_lookR hsh h (fun I1 f1 h1 => ⟨_, rfl, ?_⟩)))
    have er : rlk t (sk t (j + 1)) - nI 48 = iI ((if tb t (sk t (j + 1)) = 0 then -1 else (tb t (sk t (j + 1)) : Int)) - 48) := by
      unfold rlk
      split
      · rw [iI_zm1, nI_iI, iI_sub]; rfl
      · rw [nI_iI, nI_iI, iI_sub]; rfl
    have rb : -1 ≤ (if tb t (sk t (j + 1)) = 0 then -1 else (tb t (sk t (j + 1)) : Int)) ∧ (if tb t (sk t (j + 1)) = 0 then -1 else (tb t (sk t (j + 1)) : Int)) < 256 := by split <;> omega
    have ri : 2 ≤ (if tb t (sk t (j + 1)) = 0 then -1 else (tb t (sk t (j + 1)) : Int)) - 48 ∧ (if tb t (sk t (j + 1)) = 0 then -1 else (tb t (sk t (j + 1)) : Int)) - 48 ≤ 9 ↔ 50 ≤ tb t (sk t (j + 1)) ∧ tb t (sk t (j + 1)) ≤ 57 := by split <;> omega
    refine r_isIn (a := (if tb t (sk t (j + 1)) = 0 then -1 else (tb t (sk t (j + 1)) : Int)) - 48) (b := 2) (c := 9) (by rw [er, iI_l (by omega)]) (lN_iL 2) (lN_iL 9) (by omega) (by omega) (by omega) (fun h5 => ⟨_, rfl, br1 ?_⟩) (fun h5 => ⟨_, rfl, br0 ?_⟩)
    · have h5 := ri.mp h5
      rw [if_pos h5] at k
      have hlt := tb_lt (t := t) (i := sk t (j + 1)) (by omega)
      have e2 : rlk t (sk t (j + 1)) = nI (tb t (sk t (j + 1))) := by unfold rlk; rw [if_neg (by omega)]
      rw [e2, pk_sub (by omega)]
      exact brN (by decide +kernel) (r_fn (w := 13) hsh hx8 hx hE hG (h1.step hlt) (by omega) (by omega) (k.fr (f1.trans rNF.w3).qf))
    · rw [if_neg (fun h => h5 (ri.mpr h))] at k
      have l1 : rFl (qw I1 105 4 (I1 105 3)) (sk t (j + 1)) S P := h1.fl rFF.w4 (by rw [zu_s]; exact h1.2.1) h1.2.2.1 (by omega)
      refine r_fails hsh h1.2.2.2.1 ⟨rfl, brN (by decide +kernel) (r_openX hsh l1.ne ⟨rfl, brN l1.ne (r_f78 (w := 13) hsh (by omega) l1 (fun I2 f2 l2 => k I2 ((f1.qf.trans rFF.w4.qf).trans f2) l2))⟩)⟩
  · have k : rRes t g I J ops x S P Q (match nu t 1 24 false (j + 1) with
      | .inl f => .inl f
      | .inr (j2, v) => brF t E op j2 a [(14, v)]) := k
    have hn := nu_ok (t := t) (lo := 1) (hi := 24) (pb := false) (i := j + 1) hiL
    refine w169 hsh (brN (by decide +kernel) (brT rfl (r_nmb (pb := false) hsh h.1 h.2.1 h.2.2.1 h.2.2.2.1 (by omega) ?_)))
    cases hr : nu t 1 24 false (j + 1) with
    | inl f =>
      rw [hr] at k hn
      refine fun I1 f1 p1 => ⟨_, rfl, ?_⟩
      have l1 := h.fl f1 p1 hn (P := P) (by omega)
      exact r_openX hsh l1.ne ⟨rfl, brN l1.ne (r_f78 (w := 14) hsh (by omega) l1 (fun I2 f2 l2 => k I2 (f1.qf.trans f2) l2))⟩
    | inr q =>
      obtain ⟨j2, v⟩ := q
      rw [hr] at k hn
      obtain ⟨n1, n2, n3, n4, n5, n6⟩ := hn
      dsimp only at k n1 n2 ⊢
      exact fun I1 f1 p1 => ⟨_, rfl, r_fn (w := 14) (b := v) hsh hx8 hx hE hG (h.mv f1 p1 n2) (by omega) (by omega) (k.fr f1.qf)⟩
  · exact w169 hsh (brN (by decide +kernel) (brN (by decide +kernel) (r_fnC hsh hx8 hx hE hG h hP k)))
  · exact w169 hsh (brN (by decide +kernel) (brN (by decide +kernel) (r_fnH hsh hx8 hx hE hG h hP k)))
theorem r_168 (hsh : qSh g) (hx8 : x ≤ 8) (hx : op = true ↔ x < 8) (hE : op = true → rEx t g 165 (x + 1) S (e + 3) E) (hG : gdE t 3 E) : rEx t g 168 x S (e + 6) (atF t E op) := by
  intro d i a P ops I J Q h hP k
  have hLn := h.1.2.1
  have hiL := h.2.2.1
  have h24 := h.2.2.2.2.2.1
  have hb := h.1.2.2.2 (sk t i)
  have q1 := sk_le t i
  have q2 := sk_L h.2.2.1
  unfold atF at k
  refine w168 hsh (brT h.2.2.2.1 (r_lookR hsh h (fun I1 f1 h1 => ⟨_, rfl, ?_⟩)))
  rw [rlk_eq hb (by omega)]
  by_cases c1 : tb t (sk t i) = 40
  · rw [if_pos c1] at k
    unfold brF at k
    refine brT c1 (r_open hsh hx8 h1 (P := P) (by omega) (fun c I2 f2 h2 => ⟨rfl, brT h2.2.2.2.1 ?_⟩) (fun c I2 f2 l2 => ⟨rfl, brN l2.ne (r_shutX hsh l2 (fun I3 f3 l3 => ⟨rfl, ?_⟩))⟩))
    · rw [sk_sk] at h2 c
      rw [if_pos ⟨c1, hx.mpr c.2⟩] at k
      have hlt := tb_lt (t := t) (i := sk t i) (by omega)
      have hg := hG (sk t i + 1) a hlt h24
      refine (hE (hx.mpr c.2)).up 2 d _ _ P _ _ _ _ h2 (by omega) ?_
      cases hr : E (sk t i + 1) a with
      | inl f => rw [hr] at k; exact fun I3 f3 l3 => ⟨rfl, r_shutX hsh l3 (fun I4 f4 l4 => ⟨rfl, k I4 (((f1.qf.trans f2).trans f3).trans f4) l4⟩)⟩
      | inr q =>
        obtain ⟨i1, a1, n1⟩ := q
        rw [hr] at k hg
        obtain ⟨g1, g2, g3, g4, g5, g6, g7, g8⟩ := hg
        dsimp only at k
        refine fun I3 f3 h3 => ⟨rfl, r_shut hsh h3 (P := P) (by rw [List.length_append]; omega) ?_⟩
        cases hs : sg t 41 i1 with
        | inl f => rw [hs] at k; exact fun I4 f4 l4 => ⟨rfl, k I4 (((f1.qf.trans f2).trans f3).trans f4) l4⟩
        | inr j => rw [hs, List.append_nil] at k; exact fun I4 f4 h4 => ⟨rfl, k I4 (((f1.qf.trans f2).trans f3).trans f4) h4⟩
    · rw [sk_sk] at l3 c
      rw [if_neg (fun h => c ⟨h.1, hx.mp h.2⟩)] at k
      exact k I3 ((f1.qf.trans f2).trans f3) l3
  · rw [if_neg c1] at k
    refine brN c1 ?_
    have e16 := h1.2.2.2.2.1
    have bad : ¬ (tb t (sk t i) = 40) → (∀ I', rQF S I I' → rFl I' (sk t i) S P → Q none g I' J) → qC (d + (e + 5)) 155 [.ref 105] g I1 J (fun v _ I2 _ => v = none ∧ Q none g I2 J) := fun _ kk =>
      r_fails hsh h1.2.2.2.1 ⟨rfl, kk _ (f1.qf.trans rFF.w4.qf) (h1.fl rFF.w4 (by rw [zu_s]; exact h1.2.1) h1.2.2.1 (by omega))⟩
    -- behind the two spots
    have main : ∀ r2 r3 : Int32, ((97 ≤ tb t (sk t i) ∧ tb t (sk t i) ≤ 104 ∧ r2 = nI (tb t (sk t i) - 97)) ∨ (¬ (97 ≤ tb t (sk t i) ∧ tb t (sk t i) ≤ 104) ∧ r2 = -1)) → ((∃ z, z < 9 ∧ tb t (sk t i) = (qstr 3).getD z 0 ∧ r3 = nI z) ∨ ((∀ z, z < 9 → tb t (sk t i) ≠ (qstr 3).getD z 0) ∧ r3 = -1)) →
        (((I1 105 16) = (nI 24) → qC (d + (e + 5)) 155 [.ref 105] g I1 J (fun v _ I2 _ => v = none ∧ Q none g I2 J)) ∧ (¬ (I1 105 16) = (nI 24) → qC (d + (e + 5)) 156 [.ref 105] g I1 J (fun v _ _ _ => ∃ r4, v = some (.int r4) ∧ ((r4 = 0 → ((rlk t (sk t i) = (nI 120) → qev (d + (e + 5) + 1) 168 (92, [.ref 105, .int (rlk t (sk t i)), .int r2, .int r3], [], g, I1, J) Q) ∧ (¬ rlk t (sk t i) = (nI 120) → ((r2 = (-1) → ((r3 = (-1) → qC (d + (e + 5)) 155 [.ref 105] g I1 J (fun v _ I3 _ => v = none ∧ Q none g I3 J)) ∧ (¬ r3 = (-1) → qev (d + (e + 5) + 1) 168 (92, [.ref 105, .int (rlk t (sk t i)), .int r2, .int r3], [], g, I1, J) Q))) ∧ (¬ r2 = (-1) → qev (d + (e + 5) + 1) 168 (92, [.ref 105, .int (rlk t (sk t i)), .int r2, .int r3], [], g, I1, J) Q))))) ∧ (¬ r4 = 0 → qev (d + (e + 5) + 1) 168 (92, [.ref 105, .int (rlk t (sk t i)), .int r2, .int r3], [], g, I1, J) Q))))) := fun r2 r3 H2 H3 => by
      rw [e16, nI_eq (by omega) (by omega), rlk_eq hb (by omega)]
      by_cases c2 : a = 24
      · rw [if_pos (by omega)] at k
        exact brT c2 (bad c1 k)
      · rw [if_neg (by omega)] at k
        refine brN c2 ?_
        have h2 := h1.a1 (show a < 24 by omega)
        have f2 : rQF S I (qw I1 105 16 (I1 105 16 + nI 1)) := f1.qf.trans (rQF.w5 (Or.inr rfl))
        have go92 : (48 ≤ tb t (sk t i) ∧ tb t (sk t i) ≤ 57) ∨ tb t (sk t i) = 120 ∨ r2 ≠ -1 ∨ r3 ≠ -1 → qev (d + (e + 5) + 1) 168 (92, [.ref 105, .int (rlk t (sk t i)), .int r2, .int r3], [], g, I1, J) Q := fun hq => by
          refine w168_92 hsh (r_dig hsh h2.1 h2.2.1 h2.2.2.1 (fun hd => ⟨_, rfl, br1 ?_⟩) (fun hd => ⟨_, rfl, br0 ?_⟩))
          · rw [if_pos hd] at k
            have e1 : nu t 0 999 false (sk t i) = nu t 0 999 false i := by unfold nu; rw [sk_sk]
            have hn := nu_ok (t := t) (lo := 0) (hi := 999) (pb := false) (i := sk t i) q2
            refine r_nmb (pb := false) hsh h2.1 h2.2.1 h2.2.2.1 h2.2.2.2.1 (by omega) ?_
            rw [e1] at hn ⊢
            cases hr : nu t 0 999 false i with
            | inl f =>
              rw [hr] at k hn
              exact fun I4 f4 p4 => ⟨_, rfl, r_saysX hsh (h2.fl f4 p4 hn (P := P + 1) (by omega)) (fun I5 f5 l5 => ⟨rfl, k I5 ((f2.trans f4.qf).trans f5) l5⟩)⟩
            | inr q =>
              obtain ⟨j2, v⟩ := q
              rw [hr] at k hn
              dsimp only at k
              exact fun I4 f4 p4 => ⟨_, rfl, r_says hsh (h2.mv f4 p4 hn.2.1) (by omega) (o := (0, v)) rfl (fun _ => rfl) (fun I5 f5 h5 => ⟨rfl, k I5 ((f2.trans f4.qf).trans f5) h5⟩)⟩
          · rw [if_neg hd] at k
            have hlt : sk t i < t.length := by
              rcases hq with hq | hq | hq | hq
              · exact absurd hq hd
              · exact tb_lt (by omega)
              · rcases H2 with H | H
                · exact tb_lt (by omega)
                · exact absurd H.2 hq
              · rcases H3 with ⟨z, z1, z2, z3⟩ | H
                · have := q3_bd z z1; exact tb_lt (by omega)
                · exact absurd H.2 hq
            have h3 := h2.step hlt
            have f3 := f2.trans (rNF.w3 (I := qw I1 105 16 (I1 105 16 + nI 1)) (v := qw I1 105 16 (I1 105 16 + nI 1) 105 3 + nI 1)).qf
            rcases H3 with ⟨z, z1, z2, rfl⟩ | ⟨z1, rfl⟩
            · have zb := q3_bd z z1
              rw [if_neg (by omega), if_neg (by omega), z2] at k
              refine brN (m1_ne (by omega)) ?_
              rw [nI_add]
              exact r_169 hsh hx8 hx hE hG h3 (by omega) z1 (k.nn.fr f3)
            · refine brT rfl ?_
              rcases H2 with ⟨y1, y2, rfl⟩ | ⟨y1, rfl⟩
              · rw [if_neg (by omega), if_pos ⟨y1, y2⟩] at k
                exact brN (m1_ne (by omega)) (r_says hsh h3 (by omega) (o := (2, tb t (sk t i) - 97)) rfl (fun _ => rfl) (fun I5 f5 h5 => ⟨rfl, k I5 (f3.trans f5) h5⟩))
              · have hx120 : tb t (sk t i) = 120 := by
                  rcases hq with hq | hq | hq | hq
                  · exact absurd hq hd
                  · exact hq
                  · exact absurd rfl hq
                  · exact absurd rfl hq
                rw [if_pos hx120] at k
                exact brT rfl (r_says hsh h3 (by omega) (o := (1, 0)) rfl (fun h => absurd rfl h) (fun I5 f5 h5 => ⟨rfl, k I5 (f3.trans f5) h5⟩))
        refine r_dig hsh h1.1 h1.2.1 h1.2.2.1 (fun hd => ⟨_, rfl, br1 (go92 (Or.inl hd))⟩) (fun hd => ⟨_, rfl, br0 ?_⟩)
        refine ⟨fun h120 => go92 (Or.inr (Or.inl h120)), fun h120 => ⟨fun e2 => ⟨fun e3 => ?_, fun e3 => go92 (Or.inr (Or.inr (Or.inr e3)))⟩, fun e2 => go92 (Or.inr (Or.inr (Or.inl e2)))⟩⟩
        rw [if_neg hd, if_neg h120] at k
        rcases H2 with ⟨y1, y2, y3⟩ | ⟨y1, _⟩
        · rw [y3] at e2; exact absurd e2 (m1_ne (by omega))
        · rcases H3 with ⟨z, z1, z2, z3⟩ | ⟨z1, _⟩
          · rw [z3] at e3; exact absurd e3 (m1_ne (by omega))
          · rw [if_neg y1, fu_no z1] at k
            exact bad c1 k
    refine r_reg hb (fun h2 => ⟨_, rfl, ?_⟩) (fun h2 => ⟨_, rfl, ?_⟩)
    · exact r_fnl hb (fun z z1 z2 => ⟨_, rfl, main _ _ (Or.inl ⟨h2.1, h2.2, rfl⟩) (Or.inl ⟨z, z1, z2, rfl⟩)⟩) (fun z1 => ⟨_, rfl, main _ _ (Or.inl ⟨h2.1, h2.2, rfl⟩) (Or.inr ⟨z1, rfl⟩)⟩)
    · exact r_fnl hb (fun z z1 z2 => ⟨_, rfl, main _ _ (Or.inr ⟨h2, rfl⟩) (Or.inl ⟨z, z1, z2, rfl⟩)⟩) (fun z1 => ⟨_, rfl, main _ _ (Or.inr ⟨h2, rfl⟩) (Or.inr ⟨z1, rfl⟩)⟩)
theorem r_exF (hsh : qSh g) (hx8 : x ≤ 8) (hx : op = true ↔ x < 8) (hE : op = true → rEx t g 165 (x + 1) S (e + 3) E) (hG : gdE t 3 E) : rEx t g 165 x S (e + 6 + 3) (exF t E op) :=
  r_165 (e := e + 7) hsh (r_166 (e := e + 6) hsh (r_167 (e := e + 4) hsh (r_168 hsh hx8 hx hE hG) (at_ok hG)) (po_ok hG)) (te_ok hG)
theorem r_exD (hsh : qSh g) (t : List Nat) : ∀ n, n ≤ 8 → rEx t g 165 (8 - n) S (6 * n + 6 + 3) (exD t n)
  | 0, _ => r_exF (e := 0) hsh (by omega) ⟨fun h => (by cases h), fun h => (by omega)⟩ (fun h => (by cases h)) (fun i a hi _ => hi)
  | n + 1, hn => by
    have ih := r_exD hsh t n (by omega)
    rw [show 8 - n = 8 - (n + 1) + 1 by omega] at ih
    exact r_exF (e := 6 * n + 6) hsh (by omega) ⟨fun _ => (by omega), fun _ => rfl⟩ (fun _ => ih) (exD_ok t n)
end RATOM
