/-! the reference reads TEXTS whole -/
/-- what a STEP's reading changes: its own places from lo up to hi -/
def rTF (lo hi : Nat) (I I' : qI) : Prop := (∀ b, b ≠ 105 → b ≠ 107 → b ≠ 108 → b ≠ 109 → b ≠ 110 → I' b = I b) ∧ (∀ f, f ≠ 3 → f ≠ 4 → f ≠ 14 → f ≠ 15 → f ≠ 16 → I' 105 f = I 105 f) ∧ (∀ j, j < lo ∨ hi ≤ j → I' 107 j = I 107 j ∧ I' 108 j = I 108 j) ∧ (∀ j, j < 280 * lo ∨ 280 * hi ≤ j → I' 109 j = I 109 j) ∧ ∀ j, j ≠ 4 → I' 110 j = I 110 j
theorem rTF.refl (lo hi : Nat) (I : qI) : rTF lo hi I I := ⟨fun _ _ _ _ _ _ => rfl, fun _ _ _ _ _ _ => rfl, fun _ _ => ⟨rfl, rfl⟩, fun _ _ => rfl, fun _ _ => rfl⟩
theorem rTF.trans {lo hi : Nat} {I I1 I2 : qI} (h : rTF lo hi I I1) (h2 : rTF lo hi I1 I2) : rTF lo hi I I2 := ⟨fun b b1 b2 b3 b4 b5 => by rw [h2.1 b b1 b2 b3 b4 b5, h.1 b b1 b2 b3 b4 b5], fun f f1 f2 f3 f4 f5 => by rw [h2.2.1 f f1 f2 f3 f4 f5, h.2.1 f f1 f2 f3 f4 f5], fun j hj => ⟨by rw [(h2.2.2.1 j hj).1, (h.2.2.1 j hj).1], by rw [(h2.2.2.1 j hj).2, (h.2.2.1 j hj).2]⟩, fun j hj => by rw [h2.2.2.2.1 j hj, h.2.2.2.1 j hj], fun j hj => by rw [h2.2.2.2.2 j hj, h.2.2.2.2 j hj]⟩
theorem rTF.wide {lo hi lo' hi' : Nat} {I I1 : qI} (h : rTF lo hi I I1) (h1 : lo' ≤ lo) (h2 : hi ≤ hi') : rTF lo' hi' I I1 := ⟨h.1, h.2.1, fun j hj => h.2.2.1 j (by omega), fun j hj => h.2.2.2.1 j (by omega), h.2.2.2.2⟩
theorem rQF.tf {S : Nat} {I I' : qI} (h : rQF S I I') : rTF S (S + 1) I I' := ⟨fun b b1 b2 b3 b4 b5 => h.1 b b1 b3 b4, fun f f1 f2 _ f4 f5 => h.2.1 f f1 f2 f4 f5, fun j hj => ⟨by rw [h.1 107 (by omega) (by omega) (by omega)], h.2.2.1 j (by omega)⟩, fun j hj => h.2.2.2 j hj, fun j _ => by rw [h.1 110 (by omega) (by omega) (by omega)]⟩
theorem rFF.tf {lo hi : Nat} {I I' : qI} (h : rFF I I') : rTF lo hi I I' := ⟨fun b b1 _ _ _ _ => h.1 b b1, fun f f1 f2 _ _ _ => h.2 f f1 f2, fun j _ => ⟨by rw [h.1 107 (by omega)], by rw [h.1 108 (by omega)]⟩, fun j _ => by rw [h.1 109 (by omega)], fun j _ => by rw [h.1 110 (by omega)]⟩
theorem rTp.tf {t : List Nat} {lo hi : Nat} {I I' : qI} (h : rTp t I) (f : rTF lo hi I I') : rTp t I' := h.keep (f.2.1 2 (by omega) (by omega) (by omega) (by omega) (by omega)) (f.1 106 (by omega) (by omega) (by omega) (by omega) (by omega))
section RFAULT
variable {d : Nat} {g : qG} {I : qI} {J : qJ} {Q : qQ} {i S : Nat} {t : List Nat}
theorem r_step (hsh : qSh g) (hS : S < 41) (hT : rTp t I) (hp : I 105 3 = nI i) (hi : i ≤ t.length) (h4 : I 105 4 = -1) (k : match stepP t i with | .inl f => ∀ I', rTF S (S + 1) I I' → I' 105 4 = nI f → f ≤ 320 → Q none g I' J | .inr q => ∀ I', rTF S (S + 1) I I' → I' 105 4 = -1 → I' 105 3 = nI q.1 → I' 107 S = nI q.2.1 → rOps I' S q.2.2 → Q none g I' J) : qC (d + 58) 171 [.ref 105, .int (nI S)] g I J Q := by
  have hLn := hT.2.1
  have hb := hT.2.2.2 (sk t i)
  have q1 := sk_le t i
  have q2 := sk_L hi
  refine w171 hsh ⟨S, by rw [zu_s], hS, ?_⟩
  generalize hI0 : qw (qw (qw (qw I 105 14 (nI S)) 108 S (nI 0)) 105 15 (nI 0)) 105 16 (nI 0) = I0
  have t0 : rTF S (S + 1) I I0 := by
    rw [← hI0]
    exact ⟨fun b b1 b2 b3 b4 b5 => by rw [zu_a b1, zu_a b1, zu_a b3, zu_a b1], fun f f1 f2 f3 f4 f5 => by rw [zu_k f5, zu_k f4, zu_a (by omega), zu_k f3], fun j hj => ⟨by rw [zu_a (by omega), zu_a (by omega), zu_a (by omega), zu_a (by omega)], by rw [zu_a (by omega), zu_a (by omega), zu_k (by omega), zu_a (by omega)]⟩, fun j hj => by rw [zu_a (by omega), zu_a (by omega), zu_a (by omega), zu_a (by omega)], fun j hj => by rw [zu_a (by omega), zu_a (by omega), zu_a (by omega), zu_a (by omega)]⟩
  have h0 : rRd t I0 i 0 0 S [] := by
    refine ⟨hT.tf t0, ?_, hi, ?_, ?_, by omega, ?_, ?_, hS, ?_, by decide, fun j o hj => (by cases hj)⟩
    · rw [← hI0, zu_k (by omega), zu_k (by omega), zu_a (by omega), zu_k (by omega)]; exact hp
    · rw [← hI0, zu_k (by omega), zu_k (by omega), zu_a (by omega), zu_k (by omega)]; exact h4
    · rw [← hI0, zu_s]
    · rw [← hI0, zu_k (by omega), zu_s]
    · rw [← hI0, zu_k (by omega), zu_k (by omega), zu_a (by omega), zu_s]
    · rw [← hI0, zu_a (by omega), zu_a (by omega), zu_s]; rfl
  unfold stepP at k
  refine r_lookR hsh h0 (fun I1 f1 h1 => ⟨_, rfl, ?_⟩)
  refine r_reg hb (fun h5 => ⟨_, rfl, ?_⟩) (fun h5 => ⟨_, rfl, ?_⟩)
  · rw [if_pos h5] at k
    have hlt := tb_lt (t := t) (i := sk t i) (by omega)
    refine brN (m1_ne (by omega)) ⟨S, h1.2.2.2.2.2.2.2.1, hS, ?_⟩
    generalize hI2 : qw (qw I1 107 S (nI (tb t (sk t i) - 97))) 105 3 (qw I1 107 S (nI (tb t (sk t i) - 97)) 105 3 + nI 1) = I2
    have t2 : rTF S (S + 1) I1 I2 := by
      rw [← hI2]
      exact ⟨fun b b1 b2 b3 b4 b5 => by rw [zu_a b1, zu_a b2], fun f f1 f2 f3 f4 f5 => by rw [zu_k f1, zu_a (by omega)], fun j hj => ⟨by rw [zu_a (by omega), zu_k (by omega)], by rw [zu_a (by omega), zu_a (by omega)]⟩, fun j hj => by rw [zu_a (by omega), zu_a (by omega)], fun j hj => by rw [zu_a (by omega), zu_a (by omega)]⟩
    have h2 : rRd t I2 (sk t i + 1) 0 0 S [] := by
      obtain ⟨hT, p1, p2, p3, p4, p5, p6, p7, p8, p9⟩ := h1
      refine ⟨hT.tf t2, ?_, hlt, ?_, ?_, by omega, ?_, ?_, hS, p9.keep ?_ ?_⟩
      · rw [← hI2, zu_s, zu_a (by omega), p1, nI_add]
      · rw [← hI2, zu_k (by omega), zu_a (by omega)]; exact p3
      · rw [← hI2, zu_k (by omega), zu_a (by omega)]; exact p4
      · rw [← hI2, zu_k (by omega), zu_a (by omega)]; exact p6
      · rw [← hI2, zu_k (by omega), zu_a (by omega)]; exact p7
      · rw [← hI2, zu_a (by omega), zu_a (by omega)]
      · rw [← hI2, zu_a (by omega), zu_a (by omega)]
    have e107 : I2 107 S = nI (tb t (sk t i) - 97) := by rw [← hI2, zu_a (by omega), zu_s]
    have t02 := (t0.trans f1.ff.tf).trans t2
    refine r_sgn hsh h2.1 h2.2.1 h2.2.2.1 h2.2.2.2.1 (by omega) ?_
    have hsg := sg_ok (t := t) (c := 61) (i := sk t i + 1) hlt (by omega)
    cases hs : sg t 61 (sk t i + 1) with
    | inl f =>
      rw [hs] at k hsg
      refine fun I3 f3 p3 => ⟨rfl, brN ?_ (k I3 (t02.trans f3.tf) p3 (Nat.le_trans hsg hLn))⟩
      rw [p3]; exact m1_ne (by have : f ≤ t.length := hsg; omega)
    | inr j =>
      rw [hs] at k hsg
      obtain ⟨s1, s2⟩ := hsg
      dsimp only at k
      refine fun I3 f3 p3 => ⟨rfl, ?_⟩
      have h3 := h2.mv f3 p3 s2
      refine brT h3.2.2.2.1 (r_exD hsh t 8 (by omega) d _ _ 0 _ _ _ _ h3 (by show 4 * (0 + 0) ≤ _; omega) ?_)
      cases hr : exD t 8 j 0 with
      | inl f =>
        rw [hr] at k
        exact fun I4 f4 l4 => ⟨rfl, k I4 ((t02.trans f3.ff.tf).trans f4.tf) l4.1 l4.2.1⟩
      | inr q =>
        obtain ⟨i', a', n⟩ := q
        rw [hr] at k
        dsimp only at k
        refine fun I4 f4 h4 => ⟨rfl, k I4 ((t02.trans f3.ff.tf).trans f4.tf) h4.2.2.2.1 h4.2.1 ?_ h4.2.2.2.2.2.2.2.2.2⟩
        rw [f4.1 107 (by omega) (by omega) (by omega), f3.1 107 (by omega)]
        exact e107
  · rw [if_neg h5] at k
    exact brT rfl (r_fails hsh h1.2.2.2.1 ⟨rfl, k _ ((t0.trans f1.ff.tf).trans rFF.w4.tf) (by rw [zu_s]; exact h1.2.1) (by omega)⟩)
/-- STEPS in places from b on -/
def rScr (I : qI) (b : Nat) (ss : List SP) : Prop := ∀ j s, ss[j]? = some s → I 107 (b + j) = nI s.1 ∧ rOps I (b + j) s.2
theorem rOps.keepS {I I' : qI} {S : Nat} {ops : List (Nat × Nat)} (h : rOps I S ops) (h1 : I' 108 S = I 108 S) (h2 : ∀ j, 280 * S ≤ j → j < 280 * (S + 1) → I' 109 j = I 109 j) : rOps I' S ops := ⟨by rw [h1]; exact h.1, h.2.1, fun j o ho => by
  have := getE_lt ho
  have := h.2.1
  rw [h2 _ (by omega) (by omega), h2 _ (by omega) (by omega)]
  exact h.2.2 j o ho⟩
theorem rScr.keep {I I' : qI} {b lo hi : Nat} {ss : List SP} (h : rScr I b ss) (f : rTF lo hi I I') (hd : b + ss.length ≤ lo ∨ hi ≤ b) : rScr I' b ss := fun j s hj => by
  have hl := getE_lt hj
  obtain ⟨h1, h2⟩ := h j s hj
  exact ⟨by rw [(f.2.2.1 (b + j) (by omega)).1]; exact h1, h2.keepS (f.2.2.1 (b + j) (by omega)).2 (fun q a b => f.2.2.2.1 q (by omega))⟩
theorem r_scr_l (hsh : qSh g) {I0 : qI} : ∀ (f c i : Nat) (acc : List SP) (I : qI), c + f = 8 → 1 ≤ f → acc.length = c → rTp t I → I 105 3 = nI i → i ≤ t.length → I 105 4 = -1 → rScr I 32 acc → rTF 32 40 I0 I → (match stepsP t f i acc with | .inl z => ∀ I', rTF 32 40 I0 I' → I' 105 4 = nI z → z ≤ 320 → Q none g I' J | .inr ss => ∀ I', rTF 32 40 I0 I' → I' 105 4 = -1 → I' 110 4 = nI ss.length → rScr I' 32 ss → Q none g I' J) → qev (d + 59) 172 (4, [.ref 105, .int (nI c), .int (nI 1)], [], g, I, J) Q
  | 0, c, i, acc, I, hc, hf, _, _, _, _, _, _, _, _ => absurd hf (by omega)
  | f + 1, c, i, acc, I, hc, hf, ha, hT, hp, hi, h4, hs, hF, k => by
    have hLn := hT.2.1
    have hok := stepP_ok hi
    unfold stepsP at k
    refine w172_4 hsh (br1 ?_)
    rw [nI_add]
    refine r_step (S := 32 + c) hsh (by omega) hT hp hi h4 ?_
    cases hr : stepP t i with
    | inl z =>
      rw [hr] at k
      exact fun I1 f1 p1 p2 => ⟨rfl, brN (by rw [p1]; exact m1_ne (by omega)) (k I1 (hF.trans (f1.wide (by omega) (by omega))) p1 p2)⟩
    | inr q =>
      obtain ⟨i1, s⟩ := q
      rw [hr] at k hok
      obtain ⟨o1, o2, o3, o4, o5, o6⟩ := hok
      dsimp only at k o1 o2
      refine fun I1 f1 p4 p3 p7 pO => ⟨rfl, brT p4 ?_⟩
      have g1 : rTF 32 40 I0 I1 := hF.trans (f1.wide (by omega) (by omega))
      have hT1 := hT.tf f1
      have hb := hT.2.2.2 (sk t i1)
      have q2 := sk_L o2
      have s1 : rScr I1 32 (acc ++ [s]) := fun j q hj => by
        by_cases hj2 : j < acc.length
        · rw [List.getElem?_append_left hj2] at hj
          exact (hs.keep f1 (by omega)) j q hj
        · rw [List.getElem?_append_right (by omega)] at hj
          have hz : j - acc.length = 0 := by have := getE_lt hj; simpa using this
          rw [hz] at hj
          cases hj
          rw [show 32 + j = 32 + c by omega]
          exact ⟨p7, pO⟩
      refine r_look hsh hT1 p3 o2 (fun I2 f2 p2 => ⟨_, rfl, ?_⟩)
      have e4 : I2 105 4 = -1 := by rw [f2.2 4 (by omega)]; exact p4
      have g2 : rTF 32 40 I0 I2 := g1.trans f2.ff.tf
      have hT2 := hT1.nf f2
      have s2 : rScr I2 32 (acc ++ [s]) := fun j q hj => by
        obtain ⟨u1, u2⟩ := s1 j q hj
        exact ⟨by rw [f2.1 107 (by omega)]; exact u1, u2.keep (f2.1 108 (by omega)) (f2.1 109 (by omega))⟩
      rw [rlk_eq hb (by omega), nI_add, nI_eq (by omega) (by omega)]
      by_cases h59 : tb t (sk t i1) = 59
      · rw [if_neg (by omega)] at k
        refine brT h59 ?_
        by_cases hf0 : f = 0
        · rw [if_pos hf0] at k
          exact brT (by omega) (r_fails hsh e4 ⟨rfl, k _ (g2.trans rFF.w4.tf) (by rw [zu_s]; exact p2) (by omega)⟩)
        · rw [if_neg hf0] at k
          unfold sg at k
          rw [if_pos h59] at k
          have hlt := tb_lt (t := t) (i := sk t i1) (by omega)
          refine brN (by omega) (r_scr_l hsh f (c + 1) (sk t i1 + 1) (acc ++ [s]) _ (by omega) (by omega) (by rw [List.length_append]; show acc.length + 1 = c + 1; omega) (hT2.nf rNF.w3) (by rw [zu_s, p2, nI_add]) hlt (by rw [zu_k (by omega)]; exact e4) (fun j q hj => ?_) (g2.trans rNF.w3.ff.tf) k)
          obtain ⟨u1, u2⟩ := s2 j q hj
          exact ⟨by rw [zu_a (by omega)]; exact u1, u2.keep (zu_a (by omega)) (zu_a (by omega))⟩
      · refine brN h59 (w172_4 hsh (br0 ?_))
        have wf : rTF 32 40 I2 (qw I2 110 4 (nI (c + 1))) := ⟨fun b _ _ _ _ b5 => zu_a b5, fun f _ _ _ _ _ => by rw [zu_a (by omega)], fun j _ => ⟨by rw [zu_a (by omega)], by rw [zu_a (by omega)]⟩, fun j _ => by rw [zu_a (by omega)], fun j hj => zu_k hj⟩
        have hT3 := hT2.tf wf
        refine r_look hsh hT3 (i := sk t i1) (by rw [zu_a (by omega)]; exact p2) q2 (fun I3 f3 p5 => ⟨_, rfl, ?_⟩)
        rw [sk_sk] at p5 ⊢
        have g3 : rTF 32 40 I0 I3 := (g2.trans wf).trans f3.ff.tf
        rw [rlk_m1 hb]
        by_cases h0 : tb t (sk t i1) = 0
        · rw [if_pos h0] at k
          refine brT h0 (k I3 g3 (by rw [f3.2 4 (by omega), zu_a (by omega)]; exact e4) ?_ (fun j q hj => ?_))
          · rw [f3.1 110 (by omega), zu_s, List.length_append, ha]; rfl
          · obtain ⟨u1, u2⟩ := s2 j q hj
            exact ⟨by rw [f3.1 107 (by omega), zu_a (by omega)]; exact u1, u2.keep (by rw [f3.1 108 (by omega), zu_a (by omega)]) (by rw [f3.1 109 (by omega), zu_a (by omega)])⟩
        · rw [if_neg h0] at k
          have fl : qC (d + 58) 155 [.ref 105] g I3 J (fun v _ I' _ => v = none ∧ Q none g I' J) := by
            refine r_fails hsh (by rw [f3.2 4 (by omega), zu_a (by omega)]; exact e4) ⟨rfl, ?_⟩
            have kk : ∀ I', rTF 32 40 I0 I' → I' 105 4 = nI (sk t i1) → sk t i1 ≤ 320 → Q none g I' J := by
              by_cases hf0 : f = 0
              · rw [if_pos hf0] at k; exact k
              · rw [if_neg hf0] at k
                unfold sg at k
                rw [if_neg h59] at k
                exact k
            exact kk _ (g3.trans rFF.w4.tf) (by rw [zu_s]; exact p5) (by omega)
          exact brN h0 fl
theorem r_onestep (hsh : qSh g) (hT : rTp t I) (hp : I 105 3 = nI 0) (h4 : I 105 4 = -1) (k : match stepsP t 1 0 [] with | .inl z => ∀ I', rTF 40 41 I I' → I' 105 4 = nI z → z ≤ 320 → Q none g I' J | .inr ss => ∀ I', rTF 40 41 I I' → I' 105 4 = -1 → rScr I' 40 ss → ss.length = 1 → Q none g I' J) : qC (d + 59) 173 [.ref 105] g I J Q := by
  have hLn := hT.2.1
  have hok := stepP_ok (t := t) (i := 0) (Nat.zero_le _)
  unfold stepsP at k
  refine w173 hsh (r_step (S := 40) hsh (by omega) hT hp (Nat.zero_le _) h4 ?_)
  cases hr : stepP t 0 with
  | inl z => rw [hr] at k; exact fun I1 f1 p1 p2 => ⟨rfl, brN (by rw [p1]; exact m1_ne (by omega)) (k I1 f1 p1 p2)⟩
  | inr q =>
    obtain ⟨i1, s⟩ := q
    rw [hr] at k hok
    obtain ⟨o1, o2, o3, o4, o5, o6⟩ := hok
    dsimp only at k o1 o2
    refine fun I1 f1 p4 p3 p7 pO => ⟨rfl, brT p4 (r_look hsh (hT.tf f1) p3 o2 (fun I2 f2 p2 => ⟨_, rfl, ?_⟩))⟩
    have hb := hT.2.2.2 (sk t i1)
    have q2 := sk_L o2
    have e4 : I2 105 4 = -1 := by rw [f2.2 4 (by omega)]; exact p4
    rw [rlk_m1 hb]
    by_cases h0 : tb t (sk t i1) = 0
    · rw [if_pos h0] at k
      refine brT h0 (k I2 (f1.trans f2.ff.tf) e4 (fun j q hj => ?_) rfl)
      have hj0 : j = 0 := by have := getE_lt hj; simpa using this
      subst hj0
      cases hj
      exact ⟨by rw [f2.1 107 (by omega)]; exact p7, pO.keep (f2.1 108 (by omega)) (f2.1 109 (by omega))⟩
    · rw [if_neg h0, if_pos rfl] at k
      exact brN h0 (r_fails hsh e4 ⟨rfl, k _ ((f1.trans f2.ff.tf).trans rFF.w4.tf) (by rw [zu_s]; exact p2) (by omega)⟩)
def mk (pt mt : Bool) : Nat := bI pt + 2 * bI mt
theorem r_pm {q : Nat} (hb : tb t q < 256) (k1 : tb t q = 112 → Q (some (.int (nI 0))) g I J) (k2 : tb t q = 109 → Q (some (.int (nI 1))) g I J) (k0 : tb t q ≠ 112 → tb t q ≠ 109 → Q (some (.int (-1))) g I J) : qC d 157 [.ref 1, .int (rlk t q)] g I J Q := by
  refine w157 (r_spot_l (z := 1) (by omega) 2 0 rfl (fun j hj _ e _ => ?_) (fun n => k0 (fun h => n 0 (by decide) (by omega) ((rlk_eq hb (by omega)).mpr h).symm) (fun h => n 1 (by decide) (by omega) ((rlk_eq hb (by omega)).mpr h).symm)))
  have hj : j < 2 := hj
  have hd : j = 0 ∨ j = 1 := by omega
  rcases hd with rfl | rfl
  · exact k1 ((rlk_eq (c := 112) hb (by omega)).mp e.symm)
  · exact k2 ((rlk_eq (c := 109) hb (by omega)).mp e.symm)
/-- what a RING's reading changes -/
def rGF (I I' : qI) : Prop := (∀ b, b ≠ 105 → I' b = I b) ∧ ∀ f, f ≠ 3 → f ≠ 4 → f ≠ 5 → f ≠ 6 → I' 105 f = I 105 f
theorem rGF.trans {I I1 I2 : qI} (h : rGF I I1) (h2 : rGF I1 I2) : rGF I I2 := ⟨fun b hb => by rw [h2.1 b hb, h.1 b hb], fun f f1 f2 f3 f4 => by rw [h2.2 f f1 f2 f3 f4, h.2 f f1 f2 f3 f4]⟩
theorem rFF.gf {I I' : qI} (h : rFF I I') : rGF I I' := ⟨h.1, fun f f1 f2 _ _ => h.2 f f1 f2⟩
theorem rGF.w {I : qI} {k : Nat} {v : Int32} (hk : k = 5 ∨ k = 6) : rGF I (qw I 105 k v) := ⟨fun b hb => zu_a hb, fun f _ _ f3 f4 => zu_k (by omega)⟩
theorem rTp.gf {t : List Nat} {I I' : qI} (h : rTp t I) (f : rGF I I') : rTp t I' := h.keep (f.2 2 (by omega) (by omega) (by omega) (by omega)) (f.1 106 (by omega))
def rSpt (t : List Nat) (q : Nat) (v : Int32) : Prop := (tb t q = 112 ∧ v = nI 0) ∨ (tb t q = 109 ∧ v = nI 1) ∨ (tb t q ≠ 112 ∧ tb t q ≠ 109 ∧ v = -1)
theorem mk_has0 (pt mt : Bool) : (qshr (nI (mk pt mt)) (nI 0) &&& nI 1 = nI 1) ↔ pt = true := by cases pt <;> cases mt <;> decide +kernel
theorem mk_has1 (pt mt : Bool) : (qshr (nI (mk pt mt)) (nI 1) &&& nI 1 = nI 1) ↔ mt = true := by cases pt <;> cases mt <;> decide +kernel
theorem mk_set0 (mt : Bool) : (nI (mk false mt) ||| qshl (nI 1) (nI 0)) = nI (mk true mt) := by cases mt <;> decide +kernel
theorem mk_set1 (pt : Bool) : (nI (mk pt false) ||| qshl (nI 1) (nI 1)) = nI (mk pt true) := by cases pt <;> decide +kernel
theorem r_ring_l (hsh : qSh g) {I0 : qI} : ∀ (f i : Nat) (pt mt : Bool) (p m : Nat) (I : qI) (v : Int32), bI pt + bI mt + f = 3 → rTp t I → I 105 3 = nI (sk t i) → i ≤ t.length → I 105 4 = -1 → I 105 5 = nI p → I 105 6 = nI m → rSpt t (sk t i) v → rGF I0 I → (match ringL t f i pt mt p m with | .inl z => ∀ I', rGF I0 I' → I' 105 4 = nI z → z ≤ 320 → Q none g I' J | .inr q => ∀ I', rGF I0 I' → I' 105 4 = -1 → I' 105 5 = nI q.1 → I' 105 6 = nI q.2 → Q none g I' J) → qev (d + 3) 161 (42, [.ref 105, .int (nI (mk pt mt)), .int v], [], g, I, J) Q
  | 0, i, pt, mt, p, m, I, v, hf, _, _, _, _, _, _, _, _, _ => by cases pt <;> cases mt <;> exact absurd hf (by decide)
  | f + 1, i, pt, mt, p, m, I, v, hf, hT, hp, hi, h4, h5, h6, hv, hF, k => by
    have hLn := hT.2.1
    have hb := hT.2.2.2 (sk t i)
    have q2 := sk_L hi
    unfold ringL at k
    have bad : ∀ I1 : qI, rGF I0 I1 → I1 105 4 = -1 → I1 105 3 = nI (sk t i) → (∀ I', rGF I0 I' → I' 105 4 = nI (sk t i) → sk t i ≤ 320 → Q none g I' J) → qC (d + 2) 155 [.ref 105] g I1 J (fun v _ I2 _ => v = none ∧ Q none g I2 J) := fun I1 g1 e4 e3 kk => r_fails hsh e4 ⟨rfl, kk _ (g1.trans rFF.w4.gf) (by rw [zu_s]; exact e3) (by omega)⟩
    -- behind an item: the next look
    have nxt : ∀ (I2 : qI) (j p2 m2 : Nat) (pt2 mt2 : Bool) (u : Int32), u = nI (mk pt2 mt2) → bI pt2 + bI mt2 + f = 3 → rTp t I2 → I2 105 3 = nI j → j ≤ t.length → I2 105 4 = -1 → I2 105 5 = nI p2 → I2 105 6 = nI m2 → rGF I0 I2 → (match ringL t f j pt2 mt2 p2 m2 with | .inl z => ∀ I', rGF I0 I' → I' 105 4 = nI z → z ≤ 320 → Q none g I' J | .inr q => ∀ I', rGF I0 I' → I' 105 4 = -1 → I' 105 5 = nI q.1 → I' 105 6 = nI q.2 → Q none g I' J) → qC (d + 2) 154 [.ref 105] g I2 J (fun v _ I6 _ => ∃ r7, v = some (.int r7) ∧ qC (d + 2) 157 [.ref 1, .int r7] g I6 J (fun v _ _ _ => ∃ r8, v = some (.int r8) ∧ qev (d + 3) 161 (42, [.ref 105, .int u, .int r8], [], g, I6, J) Q)) := fun I2 j p2 m2 pt2 mt2 u hu hf2 hT2 e3 hj e4 e5 e6 g2 kk => by
      subst hu
      have hb2 := hT.2.2.2 (sk t j)
      refine r_look hsh hT2 e3 hj (fun I3 f3 p3 => ⟨_, rfl, ?_⟩)
      have go : ∀ v : Int32, rSpt t (sk t j) v → qev (d + 3) 161 (42, [.ref 105, .int (nI (mk pt2 mt2)), .int v], [], g, I3, J) Q := fun v hv => r_ring_l hsh f j pt2 mt2 p2 m2 I3 v hf2 (hT2.nf f3) p3 hj (by rw [f3.2 4 (by omega)]; exact e4) (by rw [f3.2 5 (by omega)]; exact e5) (by rw [f3.2 6 (by omega)]; exact e6) hv (g2.trans f3.ff.gf) kk
      exact r_pm hb2 (fun h => ⟨_, rfl, go _ (Or.inl ⟨h, rfl⟩)⟩) (fun h => ⟨_, rfl, go _ (Or.inr (Or.inl ⟨h, rfl⟩))⟩) (fun h h' => ⟨_, rfl, go _ (Or.inr (Or.inr ⟨h, h', rfl⟩))⟩)
    -- a fault told while an item was read
    have dead : ∀ (I2 : qI) (u : Int32) (z : Nat), rGF I0 I2 → I2 105 4 = nI z → z ≤ 320 → (∀ I', rGF I0 I' → I' 105 4 = nI z → z ≤ 320 → Q none g I' J) → qev (d + 3) 161 (42, [.ref 105, .int u, .int (-1)], [], g, I2, J) Q := fun I2 u z g2 e4 hz kk => w161_42 hsh (brT rfl (brN (by rw [e4]; exact m1_ne (by omega)) (kk I2 g2 e4 hz)))
    rcases hv with ⟨hc, rfl⟩ | ⟨hc, rfl⟩ | ⟨hc1, hc2, rfl⟩
    · rw [if_neg (by omega)] at k
      have hlt := tb_lt (t := t) (i := sk t i) (by omega)
      refine w161_42 hsh (brN (by decide +kernel) (w148 ?_))
      rw [mk_has0]
      cases pt with
      | true =>
        rw [if_neg (fun h => absurd h.1 (by decide)), if_neg (fun h => absurd h.2 (by omega))] at k
        exact brT rfl ⟨_, rfl, br1 (bad I hF h4 hp k)⟩
      | false =>
        rw [if_pos ⟨rfl, hc⟩] at k
        refine brN (by decide) ⟨_, rfl, br0 (brT nI_0 ?_)⟩
        have hn := nu_ok (t := t) (lo := 2) (hi := 997) (pb := true) (i := sk t i + 1) hlt
        have g1 : rGF I0 (qw I 105 3 (I 105 3 + nI 1)) := hF.trans rNF.w3.ff.gf
        refine r_nmb (pb := true) hsh (hT.nf rNF.w3) (by rw [zu_s, hp, nI_add]) hlt (by rw [zu_k (by omega)]; exact h4) (by omega) ?_
        cases hr : nu t 2 997 true (sk t i + 1) with
        | inl z =>
          rw [hr] at k hn
          have hn : z ≤ t.length := hn
          refine fun I2 f2 p2 => ⟨_, rfl, brN (by rw [zu_k (by omega), p2]; exact m1_ne (by omega)) ?_⟩
          exact dead _ _ z ((g1.trans f2.gf).trans (rGF.w (Or.inl rfl))) (by rw [zu_k (by omega)]; exact p2) (by omega) k
        | inr q =>
          rw [hr] at k hn
          dsimp only at k
          refine fun I2 f2 p2 => ⟨_, rfl, brT (by rw [zu_k (by omega), f2.2 4 (by omega), zu_k (by omega)]; exact h4) ?_⟩
          refine nxt _ q.1 q.2 m true mt _ (mk_set0 mt) (by revert hf; cases mt <;> (intro hf; simp [bI] at hf ⊢; omega)) (((hT.nf rNF.w3).nf f2).gf (rGF.w (Or.inl rfl))) (by rw [zu_k (by omega)]; exact p2) hn.2.1 (by rw [zu_k (by omega), f2.2 4 (by omega), zu_k (by omega)]; exact h4) zu_s (by rw [zu_k (by omega), f2.2 6 (by omega), zu_k (by omega)]; exact h6) ((g1.trans f2.ff.gf).trans (rGF.w (Or.inl rfl))) k
    · rw [if_neg (by omega), if_neg (fun h => absurd h.2 (by omega))] at k
      have hlt := tb_lt (t := t) (i := sk t i) (by omega)
      refine w161_42 hsh (brN (by decide +kernel) (w148 ?_))
      rw [mk_has1]
      cases mt with
      | true =>
        rw [if_neg (fun h => absurd h.1 (by decide))] at k
        exact brT rfl ⟨_, rfl, br1 (bad I hF h4 hp k)⟩
      | false =>
        rw [if_pos ⟨rfl, hc⟩] at k
        refine brN (by decide) ⟨_, rfl, br0 (brN (by decide +kernel) ?_)⟩
        have hn := nu_ok (t := t) (lo := 2) (hi := 24) (pb := false) (i := sk t i + 1) hlt
        have g1 : rGF I0 (qw I 105 3 (I 105 3 + nI 1)) := hF.trans rNF.w3.ff.gf
        refine r_nmb (pb := false) hsh (hT.nf rNF.w3) (by rw [zu_s, hp, nI_add]) hlt (by rw [zu_k (by omega)]; exact h4) (by omega) ?_
        cases hr : nu t 2 24 false (sk t i + 1) with
        | inl z =>
          rw [hr] at k hn
          have hn : z ≤ t.length := hn
          refine fun I2 f2 p2 => ⟨_, rfl, brN (by rw [zu_k (by omega), p2]; exact m1_ne (by omega)) ?_⟩
          exact dead _ _ z ((g1.trans f2.gf).trans (rGF.w (Or.inr rfl))) (by rw [zu_k (by omega)]; exact p2) (by omega) k
        | inr q =>
          rw [hr] at k hn
          dsimp only at k
          refine fun I2 f2 p2 => ⟨_, rfl, brT (by rw [zu_k (by omega), f2.2 4 (by omega), zu_k (by omega)]; exact h4) ?_⟩
          refine nxt _ q.1 p q.2 pt true _ (mk_set1 pt) (by revert hf; cases pt <;> (intro hf; simp [bI] at hf ⊢; omega)) (((hT.nf rNF.w3).nf f2).gf (rGF.w (Or.inr rfl))) (by rw [zu_k (by omega)]; exact p2) hn.2.1 (by rw [zu_k (by omega), f2.2 4 (by omega), zu_k (by omega)]; exact h4) (by rw [zu_k (by omega), f2.2 5 (by omega), zu_k (by omega)]; exact h5) zu_s ((g1.trans f2.ff.gf).trans (rGF.w (Or.inr rfl))) k
    · refine w161_42 hsh (brT rfl (brT h4 (r_look hsh hT hp q2 (fun I1 f1 p1 => ⟨_, rfl, ?_⟩))))
      rw [sk_sk] at p1 ⊢
      rw [rlk_m1 hb]
      have g1 : rGF I0 I1 := hF.trans f1.ff.gf
      have e4 : I1 105 4 = -1 := by rw [f1.2 4 (by omega)]; exact h4
      by_cases h0 : tb t (sk t i) = 0
      · rw [if_pos h0] at k
        exact brT h0 (k I1 g1 e4 (by rw [f1.2 5 (by omega)]; exact h5) (by rw [f1.2 6 (by omega)]; exact h6))
      · rw [if_neg h0, if_neg (fun h => hc1 h.2), if_neg (fun h => hc2 h.2)] at k
        exact brN h0 (bad I1 g1 e4 p1 k)
end RFAULT
