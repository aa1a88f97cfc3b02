/-! the class reads TEXTS whole -/
def kSF (I I' : qI) : Prop := (∀ b, b ≠ 7 → b ≠ 8 → b ≠ 9 → b ≠ 10 → b ≠ 11 → I' b = I b) ∧ I' 8 0 = I 8 0 ∧ I' 11 5 = I 11 5 ∧ I' 11 6 = I 11 6
theorem kSF.trans {I I1 I2 : qI} (h : kSF I I1) (h2 : kSF I1 I2) : kSF I I2 := ⟨fun b b1 b2 b3 b4 b5 => by rw [h2.1 b b1 b2 b3 b4 b5, h.1 b b1 b2 b3 b4 b5], by rw [h2.2.1, h.2.1], by rw [h2.2.2.1, h.2.2.1], by rw [h2.2.2.2, h.2.2.2]⟩
theorem kRF.sf {I I' : qI} (h : kRF I I') : kSF I I' := ⟨fun b b1 _ _ b4 b5 => h.1 b b5 b1 b4, by rw [h.1 8 (by omega) (by omega) (by omega)], h.2.1 5 (by omega) (by omega) (by omega), h.2.1 6 (by omega) (by omega) (by omega)⟩
theorem kTp.sf {t : List Nat} {I I' : qI} (h : kTp t I) (f : kSF I I') : kTp t I' := h.keep (f.1 5 (by omega) (by omega) (by omega) (by omega) (by omega)) (f.1 6 (by omega) (by omega) (by omega) (by omega) (by omega))
theorem stepP_ok {t : List Nat} {i : Nat} (hi : i ≤ t.length) : match stepP t i with | .inl f => f ≤ t.length | .inr q => i < q.1 ∧ q.1 ≤ t.length ∧ q.2.1 < 8 ∧ wf q.2.2 ∧ q.2.2.length + i ≤ q.1 ∧ (t.length ≤ 320 → q.2.2.length ≤ 128) := by
  have h1 := sk_le t i
  have h2 := sk_L hi
  unfold stepP
  by_cases hc : 97 ≤ tb t (sk t i) ∧ tb t (sk t i) ≤ 104
  · rw [if_pos hc]
    have hlt := tb_lt (t := t) (i := sk t i) (by omega)
    have hsg := sg_ok (t := t) (c := 61) (i := sk t i + 1) (by omega) (by omega)
    cases hs : sg t 61 (sk t i + 1) with
    | inl f => rw [hs] at hsg; exact hsg
    | inr j =>
      rw [hs] at hsg
      obtain ⟨s1, s2⟩ := hsg
      dsimp only
      have hg := exD_ok t 8 j 0 s2 (by omega)
      cases hr : exD t 8 j 0 with
      | inl f => rw [hr] at hg; exact hg
      | inr q =>
        obtain ⟨i', a', n⟩ := q
        rw [hr] at hg
        obtain ⟨g1, g2, g3, g4, g5, g6, g7, g8⟩ := hg
        have g9 := g8 0 [] (by omega)
        rw [List.append_nil] at g9
        refine ⟨by show i < i'; omega, g2, by show _ - 97 < 8; omega, ⟨g7, g9⟩, by show n.length + i ≤ i'; omega, fun h320 => ?_⟩
        show n.length ≤ 128
        omega
  · rw [if_neg hc]; exact h2
section KFAULT
variable {d : Nat} {g : qG} {I : qI} {J : qJ} {Q : qQ} {i a : Nat} {t : List Nat}
theorem k_step (hsh : qSh g) (hT : kTp t I) (hp : I 11 2 = nI i) (hi : i ≤ t.length) {ss : List SP} (hC : kCode I 7 320 ss) (h8 : ss.length < 8) (hs : (cat ss).length ≤ i) (k : match stepP t i with | .inl f => ∀ I', kSF I I' → I' 11 2 = nI f → Q (some (.int (nI 0))) g I' J | .inr q => ∀ I', kSF I I' → I' 11 2 = nI q.1 → kCode I' 7 320 (ss ++ [q.2]) → (cat (ss ++ [q.2])).length ≤ q.1 → Q (some (.int (nI 1))) g I' J) : qC (d + 65) 52 [.ref 11] g I J Q := by
  obtain ⟨c1, c2, c3, c4, c5, c6, c7⟩ := hC
  have hb := hT.2.2.2 (sk t i)
  have q1 := sk_le t i
  have q2 := sk_L hi
  unfold stepP at k
  refine w52 hsh (k_next hsh hT hp hi (fun I1 f1 p1 => ⟨_, rfl, ?_⟩))
  rw [nI_ltI (by omega) (by omega), nI_ltI (by omega) (by omega)]
  by_cases hl : tb t (sk t i) < 97
  · rw [if_neg (by omega)] at k
    exact brT hl (k I1 f1.rf.sf p1)
  · refine brN hl ?_
    by_cases hl2 : 104 < tb t (sk t i)
    · rw [if_neg (by omega)] at k
      exact brT hl2 (k I1 f1.rf.sf p1)
    · rw [if_pos (by omega)] at k
      have hlt := tb_lt (t := t) (i := sk t i) (by omega)
      refine brN hl2 ?_
      rw [pk_sub (by omega)]
      have e73 : I1 7 3 = nI ss.length := by rw [f1.1 7 (by omega)]; exact c1
      refine w31 hsh.draft (brT (by rw [e73, nI_ltI (by omega) (by omega)]; exact h8) ⟨ss.length, e73, h8, ?_⟩)
      refine ⟨_, rfl, br1 ?_⟩
      show qC (d + 64) 64 [.ref 11, .int (nI 61)] g (qw (qw (qw I1 9 ss.length (nI (tb t (sk t i) - 97))) 11 2 (qw I1 9 ss.length (nI (tb t (sk t i) - 97)) 11 2 + nI 1)) 11 3 (nI 0)) J _
      generalize hI2 : qw (qw (qw I1 9 ss.length (nI (tb t (sk t i) - 97))) 11 2 (qw I1 9 ss.length (nI (tb t (sk t i) - 97)) 11 2 + nI 1)) 11 3 (nI 0) = I2
      have s2 : kSF I I2 := by
        refine f1.rf.sf.trans ?_
        rw [← hI2]
        exact ⟨fun b b1 b2 b3 b4 b5 => by rw [zu_a b5, zu_a b5, zu_a b3], by rw [zu_a (by omega), zu_a (by omega), zu_a (by omega)], by rw [zu_k (by omega), zu_k (by omega), zu_a (by omega)], by rw [zu_k (by omega), zu_k (by omega), zu_a (by omega)]⟩
      have o2 : ∀ b, b ≠ 9 → b ≠ 11 → I2 b = I b := fun b b1 b2 => by rw [← hI2, zu_a b2, zu_a b2, zu_a b1, f1.1 b b2]
      have t2 : ∀ j, I2 9 j = if j = ss.length then nI (tb t (sk t i) - 97) else I 9 j := fun j => by
        rw [← hI2, zu_a (by omega), zu_a (by omega)]
        by_cases hj : j = ss.length
        · rw [if_pos hj, hj, zu_s]
        · rw [if_neg hj, zu_k hj, f1.1 9 (by omega)]
      have h2 : kRd t I2 (sk t i + 1) 0 (cat ss) := by
        refine ⟨hT.sf s2, ?_, by omega, ?_, by omega, by rw [o2 7 (by omega) (by omega)]; exact c3, by omega, fun j o ho => by rw [o2 10 (by omega) (by omega)]; exact c7 j o ho⟩
        · rw [← hI2, zu_k (by omega), zu_s, zu_a (by omega), p1, nI_add]
        · rw [← hI2, zu_s]
      refine k_sign hsh h2.1 h2.2.1 h2.2.2.1 (by omega) ?_
      have hsg := sg_ok (t := t) (c := 61) (i := sk t i + 1) (by omega) (by omega)
      cases hsr : sg t 61 (sk t i + 1) with
      | inl f => rw [hsr] at k; exact fun I3 f3 p3 _ => ⟨_, rfl, br0 (k I3 (s2.trans f3.rf.sf) p3)⟩
      | inr j =>
        rw [hsr] at k hsg
        dsimp only at k
        refine fun I3 f3 p3 => ⟨_, rfl, br1 ?_⟩
        have h3 := h2.mv f3 p3 (Nat.le_of_lt hsg.1) hsg.2
        refine k_exD hsh t 8 (by omega) d _ _ _ _ _ _ h3 ?_
        cases hr : exD t 8 j 0 with
        | inl f => rw [hr] at k; exact fun I4 f4 p4 => ⟨_, rfl, br0 (k I4 ((s2.trans f3.rf.sf).trans f4.sf) p4)⟩
        | inr q =>
          obtain ⟨i', a', n⟩ := q
          rw [hr] at k
          dsimp only at k
          refine fun I4 f4 h4 => ⟨_, rfl, br1 ?_⟩
          have f34 := f3.rf.trans f4
          have e4 : I4 7 3 = nI ss.length := by rw [f34.2.2 3 (by omega), o2 7 (by omega) (by omega)]; exact c1
          have o4 : ∀ b, b ≠ 11 → b ≠ 7 → b ≠ 10 → I4 b = I2 b := f34.1
          refine w32 hsh.draft (brT (by rw [e4, nI_ltI (by omega) (by omega)]; exact h8) ⟨ss.length + 1, by rw [zu_s, e4, nI_add], by omega, ?_⟩)
          refine ⟨_, rfl, br1 (k _ ?_ ?_ ?_ ?_)⟩
          · refine (s2.trans f34.sf).trans ⟨fun b b1 b2 b3 b4 b5 => by rw [zu_a b2, zu_a b1], by rw [zu_k (by omega), zu_a (by omega)], by rw [zu_a (by omega), zu_a (by omega)], by rw [zu_a (by omega), zu_a (by omega)]⟩
          · rw [zu_a (by omega), zu_a (by omega)]; exact h4.2.1
          · have ec : cat (ss ++ [(tb t (sk t i) - 97, n)]) = cat ss ++ n := by rw [cat_app, cat_one]
            refine ⟨?_, ?_, ?_, ?_, fun j hj => ?_, fun j s hj => ?_, fun j o hj => ?_⟩
            · rw [zu_a (by omega), zu_s, e4, nI_add, List.length_append]; rfl
            · rw [List.length_append]; show ss.length + 1 ≤ 8; omega
            · rw [zu_a (by omega), zu_k (by omega), ec]; exact h4.2.2.2.2.2.1
            · rw [ec]
              have := h4.2.2.2.2.2.2.1
              have := h4.2.2.1
              have := hT.2.1
              omega
            · rw [List.length_append] at hj
              by_cases hj2 : j = ss.length + 1
              · rw [hj2, zu_s, zu_k (by omega), h4.2.2.2.2.2.1, show ss.length + 1 = (ss ++ [(tb t (sk t i) - 97, n)]).length by rw [List.length_append]; rfl, off_all, ec]
              · have hj : j ≤ ss.length := by simp only [List.length_cons, List.length_nil] at hj; omega
                rw [zu_k hj2, zu_a (by omega), o4 8 (by omega) (by omega) (by omega), o2 8 (by omega) (by omega), off_app hj]
                exact c5 j hj
            · rw [zu_a (by omega), zu_a (by omega), o4 9 (by omega) (by omega) (by omega), t2]
              by_cases hj2 : j < ss.length
              · rw [List.getElem?_append_left hj2] at hj
                rw [if_neg (by omega)]
                exact c6 j s hj
              · rw [List.getElem?_append_right (by omega)] at hj
                have hz : j - ss.length = 0 := by have := getE_lt hj; simpa using this
                rw [hz] at hj
                cases hj
                rw [if_pos (by omega)]
            · rw [zu_a (by omega), zu_a (by omega)]
              rw [ec] at hj
              exact h4.2.2.2.2.2.2.2 j o hj
          · rw [cat_app, cat_one]
            exact h4.2.2.2.2.2.2.1
theorem k_steps_l (hsh : qSh g) {I0 : qI} {lim : Nat} (hlim : lim ≤ 8) : ∀ (f c i : Nat) (acc : List SP) (I : qI), c + f = lim + 1 → 1 ≤ c → acc.length + 1 = c → kTp t I → I 11 2 = nI i → i ≤ t.length → kCode I 7 320 acc → (cat acc).length ≤ i → kSF I0 I → (match stepsP t f i acc with | .inl z => ∀ I', kSF I0 I' → I' 11 2 = nI z → Q (some (.int (nI 0))) g I' J | .inr ss => ∀ I', kSF I0 I' → kCode I' 7 320 ss → Q (some (.int (nI 1))) g I' J) → qev (d + 66) 51 (9, [.ref 11, .int (nI lim), .int (nI c)], [], g, I, J) Q
  | 0, c, i, acc, I, hc, hc1, ha, hT, hp, hi, hC, hs, hF, k => w51_9 hsh (brT (by rw [nI_ltI (by omega) (by omega)]; omega) (k I hF hp))
  | f + 1, c, i, acc, I, hc, hc1, ha, hT, hp, hi, hC, hs, hF, k => by
    refine w51_9 hsh (brN (by rw [nI_ltI (by omega) (by omega)]; omega) (k_step hsh hT hp hi hC (by omega) hs ?_))
    have hok := stepP_ok hi
    unfold stepsP at k
    cases hr : stepP t i with
    | inl z => rw [hr] at k; exact fun I1 f1 p1 => ⟨_, rfl, br0 (k I1 (hF.trans f1) p1)⟩
    | inr q =>
      obtain ⟨i1, s⟩ := q
      rw [hr] at k hok
      obtain ⟨o1, o2, o3, o4, o5, o6⟩ := hok
      dsimp only at k o1 o2
      refine fun I1 f1 p1 c1 l1 => ⟨_, rfl, br1 ?_⟩
      have hT1 := hT.sf f1
      have hb := hT.2.2.2 (sk t i1)
      refine k_next hsh hT1 p1 o2 (fun I2 f2 p2 => ⟨_, rfl, ?_⟩)
      have c2 : ∀ {I2 : qI}, kNF I1 I2 → kCode I2 7 320 (acc ++ [s]) := fun {I2} f2 => by
        obtain ⟨d1, d2, d3, d4, d5, d6, d7⟩ := c1
        exact ⟨by rw [f2.1 7 (by omega)]; exact d1, d2, by rw [f2.1 7 (by omega)]; exact d3, d4, fun j hj => by rw [f2.1 8 (by omega)]; exact d5 j hj, fun j s hj => by rw [f2.1 9 (by omega)]; exact d6 j s hj, fun j o hj => by rw [f2.1 10 (by omega)]; exact d7 j o hj⟩
      have e0 : nI (tb t (sk t i1)) = 0 ↔ tb t (sk t i1) = 0 := by rw [← nI_0, nI_eq (by omega) (by omega)]
      rw [e0]
      by_cases h0 : tb t (sk t i1) = 0
      · rw [if_pos h0] at k
        exact brT h0 (k I2 ((hF.trans f1).trans f2.rf.sf) (c2 f2))
      · rw [if_neg h0] at k
        refine brN h0 ?_
        rw [nI_eq (by omega) (by omega)]
        by_cases hf : f = 0
        · rw [if_pos hf] at k
          exact brT (by omega) (k I2 ((hF.trans f1).trans f2.rf.sf) p2)
        · rw [if_neg hf] at k
          refine brN (by omega) ?_
          have es : sg t 59 (sk t i1) = sg t 59 i1 := by unfold sg; rw [sk_sk]
          refine k_sign hsh (hT1.nf f2) p2 (sk_L o2) (by omega) ?_
          have hsg := sg_ok (t := t) (c := 59) (i := i1) o2 (by omega)
          rw [es]
          cases hsr : sg t 59 i1 with
          | inl z => rw [hsr] at k; exact fun I3 f3 p3 _ => ⟨_, rfl, br0 (k I3 (((hF.trans f1).trans f2.rf.sf).trans f3.rf.sf) p3)⟩
          | inr j =>
            rw [hsr] at k hsg
            obtain ⟨s1, s2⟩ := hsg
            refine fun I3 f3 p3 => ⟨_, rfl, br1 ?_⟩
            rw [nI_add]
            exact k_steps_l hsh hlim f (c + 1) j (acc ++ [s]) I3 (by omega) (by omega) (by rw [List.length_append]; show acc.length + 1 + 1 = c + 1; omega) ((hT1.nf f2).nf f3) p3 s2 (c2 (f2.trans f3)) (by dsimp only at l1; omega) (((hF.trans f1).trans f2.rf.sf).trans f3.rf.sf) k
theorem k_steps (hsh : qSh g) {lim : Nat} (hlim : lim ≤ 8) (hT : kTp t I) (hp : I 11 2 = nI 0) (h80 : I 8 0 = nI 0) (k : match stepsP t lim 0 [] with | .inl z => ∀ I', kSF I I' → I' 11 2 = nI z → Q (some (.int (nI 0))) g I' J | .inr ss => ∀ I', kSF I I' → kCode I' 7 320 ss → Q (some (.int (nI 1))) g I' J) : qC (d + 66) 51 [.ref 11, .int (nI lim)] g I J Q := by
  refine w51 hsh (w30 hsh.draft ⟨rfl, ?_⟩)
  have f1 : kSF I (qw (qw I 7 3 (nI 0)) 7 4 (nI 0)) := ⟨fun b b1 _ _ _ _ => by rw [zu_a b1, zu_a b1], by rw [zu_a (by omega), zu_a (by omega)], by rw [zu_a (by omega), zu_a (by omega)], by rw [zu_a (by omega), zu_a (by omega)]⟩
  refine k_steps_l hsh hlim lim 1 0 [] _ (by omega) (by omega) rfl (hT.sf f1) (by rw [zu_a (by omega), zu_a (by omega)]; exact hp) (by omega) ⟨by rw [zu_k (by omega), zu_s]; rfl, by decide, by rw [zu_s]; rfl, by decide, fun j hj => ?_, fun j s hj => (by cases hj), fun j o hj => (by cases hj)⟩ (by decide) f1 k
  have hj : j = 0 := by simpa using hj
  rw [hj, f1.2.1]
  exact h80
/-- told or not, as an int -/
def bI (b : Bool) : Nat := if b then 1 else 0
def kGF (I I' : qI) : Prop := ∀ b, b ≠ 11 → I' b = I b
theorem kGF.trans {I I1 I2 : qI} (h : kGF I I1) (h2 : kGF I1 I2) : kGF I I2 := fun b hb => by rw [h2 b hb, h b hb]
theorem kTp.gf {t : List Nat} {I I' : qI} (h : kTp t I) (f : kGF I I') : kTp t I' := h.keep (f 5 (by omega)) (f 6 (by omega))
theorem k_ring_l (hsh : qSh g) {I0 : qI} : ∀ (f c i : Nat) (pt mt : Bool) (p m : Nat) (I : qI), c + f = 3 → kTp t I → I 11 2 = nI i → i ≤ t.length → I 11 5 = nI p → I 11 6 = nI m → kGF I0 I → (match ringL t f i pt mt p m with | .inl z => ∀ I', kGF I0 I' → I' 11 2 = nI z → Q (some (.int (nI 0))) g I' J | .inr q => ∀ I', kGF I0 I' → I' 11 5 = nI q.1 → I' 11 6 = nI q.2 → Q (some (.int (nI 1))) g I' J) → qev (d + 3) 49 (29, [.ref 11, .int (nI (bI pt)), .int (nI (bI mt)), .int (nI c)], [], g, I, J) Q
  | 0, c, i, pt, mt, p, m, I, hc, hT, hp, hi, h5, h6, hF, k => w49_29 hsh (brT (by rw [nI_ltI (by omega) (by omega)]; omega) (k I hF h5 h6))
  | f + 1, c, i, pt, mt, p, m, I, hc, hT, hp, hi, h5, h6, hF, k => by
    have hb := hT.2.2.2 (sk t i)
    have q2 := sk_L hi
    unfold ringL at k
    refine w49_29 hsh (brN (by rw [nI_ltI (by omega) (by omega)]; omega) (k_next hsh hT hp hi (fun I1 f1 p1 => ⟨_, rfl, ?_⟩)))
    have e0 : nI (tb t (sk t i)) = 0 ↔ tb t (sk t i) = 0 := by rw [← nI_0, nI_eq (by omega) (by omega)]
    have g1 : kGF I0 I1 := hF.trans f1.1
    have hT1 := hT.nf f1
    have s1 : I1 11 5 = nI p := by rw [f1.2 5 (by omega) (by omega)]; exact h5
    have s2 : I1 11 6 = nI m := by rw [f1.2 6 (by omega) (by omega)]; exact h6
    rw [e0]
    by_cases h0 : tb t (sk t i) = 0
    · rw [if_pos h0] at k
      exact brT h0 (k I1 g1 s1 s2)
    · rw [if_neg h0] at k
      refine brN h0 ?_
      have bz : ∀ b : Bool, nI (bI b) = 0 ↔ b = false := fun b => by cases b <;> decide +kernel
      rw [bz, bz]
      -- the second half: MOST, from I2 where nothing but the place moved
      have mo : ∀ I2 : qI, kNF I1 I2 → I2 11 2 = nI (sk t i) → ¬ (pt = false ∧ tb t (sk t i) = 112) → ((mt = false → qC (d + 2) 64 [.ref 11, .int (nI 109)] g I2 J (fun v _ I5 _ => ∃ r5, v = some (.int r5) ∧ ((r5 = 0 → Q (some (.int (nI 0))) g I5 J) ∧ (¬ r5 = 0 → qC (d + 2) 65 [.ref 11, .int (nI 2), .int (nI 24)] g I5 J (fun v _ I6 _ => ∃ r6, v = some (.int r6) ∧ ((r6 = 0 → Q (some (.int (nI 0))) g I6 J) ∧ (¬ r6 = 0 → qev (d + 3) 49 (29, [.ref 11, .int (nI (bI pt)), .int (nI 1), .int (nI c + (nI 1))], [], g, (qw I6 11 6 (I6 11 4)), J) Q))))))) ∧ (¬ mt = false → Q (some (.int (nI 0))) g I2 J)) := fun I2 f2 p2 hn => by
        rw [if_neg hn] at k
        have hT2 := hT1.nf f2
        by_cases hm : mt = false
        · refine brT hm (k_sign hsh hT2 p2 q2 (by omega) ?_)
          unfold sg
          rw [sk_sk]
          by_cases h109 : tb t (sk t i) = 109
          · rw [if_pos h109]
            rw [if_pos ⟨hm, h109⟩] at k
            have hlt := tb_lt (t := t) (i := sk t i) (by omega)
            refine fun I3 f3 p3 => ⟨_, rfl, br1 ?_⟩
            have hT3 := hT2.nf f3
            have hn := nu_ok (t := t) (lo := 2) (hi := 24) (pb := false) (i := sk t i + 1) (by omega)
            refine k_num hsh hT3 p3 (by omega) (by omega) ?_
            cases hr : nu t 2 24 false (sk t i + 1) with
            | inl z => rw [hr] at k; exact fun I4 f4 p4 => ⟨_, rfl, br0 (k I4 (((g1.trans f2.1).trans f3.1).trans f4.1) p4)⟩
            | inr q =>
              rw [hr] at k hn
              dsimp only at k
              refine fun I4 f4 p4 p5 => ⟨_, rfl, br1 ?_⟩
              have g4 : kGF I0 (qw I4 11 6 (I4 11 4)) := (((g1.trans f2.1).trans f3.1).trans f4.1).trans (fun b hb => zu_a hb)
              have f24 := (f2.trans f3).trans f4
              rw [nI_add]
              exact k_ring_l hsh f (c + 1) q.1 pt true p q.2 _ (by omega) ((hT3.nf f4).gf (fun b hb => zu_a hb)) (by rw [zu_k (by omega)]; exact p4) hn.2.1 (by rw [zu_k (by omega), f24.2 5 (by omega) (by omega)]; exact s1) (by rw [zu_s]; exact p5) g4 k
          · rw [if_neg h109]
            rw [if_neg (fun h => h109 h.2)] at k
            exact fun I3 f3 p3 _ => ⟨_, rfl, br0 (k I3 ((g1.trans f2.1).trans f3.1) p3)⟩
        · rw [if_neg (fun h => hm h.1)] at k
          exact brN hm (k I2 (g1.trans f2.1) p2)
      by_cases hpt : pt = false
      · refine brT hpt (k_sign hsh hT1 p1 q2 (by omega) ?_)
        unfold sg
        rw [sk_sk]
        by_cases h112 : tb t (sk t i) = 112
        · rw [if_pos h112]
          rw [if_pos ⟨hpt, h112⟩] at k
          have hlt := tb_lt (t := t) (i := sk t i) (by omega)
          refine fun I3 f3 p3 => ⟨_, rfl, br1 ?_⟩
          have hT3 := hT1.nf f3
          have hn := nu_ok (t := t) (lo := 2) (hi := 997) (pb := true) (i := sk t i + 1) (by omega)
          refine k_prime hsh hT3 p3 (by omega) ?_
          cases hr : nu t 2 997 true (sk t i + 1) with
          | inl z => rw [hr] at k; exact fun I4 f4 p4 => ⟨_, rfl, br0 (k I4 ((g1.trans f3.1).trans f4.1) p4)⟩
          | inr q =>
            rw [hr] at k hn
            dsimp only at k
            refine fun I4 f4 p4 p5 => ⟨_, rfl, br1 ?_⟩
            have g4 : kGF I0 (qw I4 11 5 (I4 11 4)) := ((g1.trans f3.1).trans f4.1).trans (fun b hb => zu_a hb)
            have f24 := f3.trans f4
            rw [nI_add]
            exact k_ring_l hsh f (c + 1) q.1 true mt q.2 m _ (by omega) ((hT3.nf f4).gf (fun b hb => zu_a hb)) (by rw [zu_k (by omega)]; exact p4) hn.2.1 (by rw [zu_s]; exact p5) (by rw [zu_k (by omega), f24.2 6 (by omega) (by omega)]; exact s2) g4 k
        · rw [if_neg h112]
          exact fun I3 f3 p3 _ => ⟨_, rfl, br0 (mo I3 f3 p3 (fun h => h112 h.2))⟩
      · exact brN hpt (mo I1 (kNF.refl I1) p1 (fun h => hpt h.1))
theorem k_ring (hsh : qSh g) (hT : kTp t I) (hp : I 11 2 = nI 0) (k : match ringP t with | .inl z => ∀ I', kGF I I' → I' 11 2 = nI z → Q (some (.int (nI 0))) g I' J | .inr q => ∀ I', kGF I I' → I' 11 5 = nI q.1 → I' 11 6 = nI q.2 → Q (some (.int (nI 1))) g I' J) : qC (d + 3) 49 [.ref 11] g I J Q := by
  have g1 : kGF I (qw (qw I 11 5 (nI 7)) 11 6 (nI 12)) := fun b hb => by rw [zu_a hb, zu_a hb]
  refine w49 hsh (k_sign hsh (hT.gf g1) (by rw [zu_k (by omega), zu_k (by omega)]; exact hp) (Nat.zero_le _) (by omega) ?_)
  unfold ringP at k
  have hsg := sg_ok (t := t) (c := 115) (i := 0) (Nat.zero_le _) (by omega)
  cases hs : sg t 115 0 with
  | inl z => rw [hs] at k; exact fun I1 f1 p1 _ => ⟨_, rfl, br0 (k I1 (g1.trans f1.1) p1)⟩
  | inr j =>
    rw [hs] at k hsg
    dsimp only at k
    refine fun I1 f1 p1 => ⟨_, rfl, br1 ?_⟩
    exact k_ring_l hsh 3 0 j false false 7 12 I1 (by omega) ((hT.gf g1).nf f1) p1 hsg.2 (by rw [f1.2 5 (by omega) (by omega), zu_k (by omega), zu_s]) (by rw [f1.2 6 (by omega) (by omega), zu_s]) (g1.trans f1.1) k
/-- method faultAs: sort 0 a RING, 1 a SCRIPT, 2 a STEP -/
theorem k_fault0 (hsh : qSh g) (hT : kTp t I) (k : match ringP t with | .inl z => ∀ I', kGF I I' → Q (some (.int (nI z))) g I' J | .inr q => ∀ I', kGF I I' → I' 11 5 = nI q.1 → I' 11 6 = nI q.2 → Q (some (.int (-1))) g I' J) : qC (d + 4) 48 [.ref 11, .int (nI 0)] g I J Q := by
  have g1 : kGF I (qw I 11 2 (nI 0)) := fun b hb => by rw [zu_a hb]
  refine w48 hsh (br0 (k_ring hsh (hT.gf g1) zu_s ?_))
  cases hr : ringP t with
  | inl z => rw [hr] at k; exact fun I1 f1 p1 => ⟨_, rfl, br0 (by rw [p1]; exact k I1 (g1.trans f1))⟩
  | inr q => rw [hr] at k; exact fun I1 f1 p1 p2 => ⟨_, rfl, br1 (k I1 (g1.trans f1) p1 p2)⟩
theorem k_fault1 (hsh : qSh g) (hT : kTp t I) (h80 : I 8 0 = nI 0) {s lim : Nat} (hs : (s = 1 ∧ lim = 8) ∨ (s = 2 ∧ lim = 1)) (k : match stepsP t lim 0 [] with | .inl z => ∀ I', kSF I I' → Q (some (.int (nI z))) g I' J | .inr ss => ∀ I', kSF I I' → kCode I' 7 320 ss → Q (some (.int (-1))) g I' J) : qC (d + 67) 48 [.ref 11, .int (nI s)] g I J Q := by
  have g1 : kSF I (qw I 11 2 (nI 0)) := kNF.w2.rf.sf
  have go : qC (d + 66) 51 [.ref 11, .int (nI lim)] g (qw I 11 2 (nI 0)) J (fun v _ I2 _ => ∃ r2, v = some (.int r2) ∧ ((r2 = 0 → Q (some (.int (I2 11 2))) g I2 J) ∧ (¬ r2 = 0 → Q (some (.int (-1))) g I2 J))) := by
    refine k_steps hsh (by omega) (hT.sf g1) zu_s (by rw [g1.2.1]; exact h80) ?_
    cases hr : stepsP t lim 0 [] with
    | inl z => rw [hr] at k; exact fun I1 f1 p1 => ⟨_, rfl, br0 (by rw [p1]; exact k I1 (g1.trans f1))⟩
    | inr q => rw [hr] at k; exact fun I1 f1 p1 => ⟨_, rfl, br1 (k I1 (g1.trans f1) p1)⟩
  refine w48 hsh (brN (by rw [← nI_0, nI_eq (by omega) (by omega)]; omega) ?_)
  rw [nI_eq (by omega) (by omega)]
  rcases hs with ⟨h1, h2⟩ | ⟨h1, h2⟩
  · subst h2; exact brT h1 go
  · subst h2; exact brN (by omega) go
end KFAULT
