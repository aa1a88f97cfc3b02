/-! calls: text -/
section TEXTS
variable {d : Nat} {g g' : qG} {I I' : qI} {J J' : qJ} {Q : qQ} {t : List Nat} {p M : Nat} {s s' : ST} {hs hs' : List ST} {im im' : Option ST} {sc : SC} {rf : RF} {x1 : Int32} {ss : List SP}
theorem ringL_ok : ∀ (f i : Nat) (pt mt : Bool) (p m : Nat), i ≤ t.length → pr p → (2 ≤ m ∧ m ≤ 24) → ∀ q, ringL t f i pt mt p m = .inr q → pr q.1 ∧ 2 ≤ q.2 ∧ q.2 ≤ 24
  | 0, i, pt, mt, p, m, hi, hp, hm, q, h => by
    cases h
    exact ⟨hp, hm⟩
  | f + 1, i, pt, mt, p, m, hi, hp, hm, q, h => by
    unfold ringL at h
    by_cases h0 : tb t (sk t i) = 0
    · rw [if_pos h0] at h
      cases h
      exact ⟨hp, hm⟩
    · rw [if_neg h0] at h
      have hl : sk t i + 1 ≤ t.length := by
        by_cases h3 : sk t i < t.length
        · omega
        · rw [tb_ge (by omega)] at h0; exact absurd rfl h0
      by_cases h1 : pt = false ∧ tb t (sk t i) = 112
      · rw [if_pos h1] at h
        have hn := nu_ok (t := t) (lo := 2) (hi := 997) (pb := true) hl
        cases e : nu t 2 997 true (sk t i + 1) with
        | inl z => rw [e] at h; cases h
        | inr w =>
          rw [e] at h hn
          obtain ⟨n1, n2, n3, n4, n5, n6⟩ := hn
          exact ringL_ok f w.1 true mt w.2 m n2 ⟨n6 rfl, by omega⟩ hm q h
      · rw [if_neg h1] at h
        by_cases h2 : mt = false ∧ tb t (sk t i) = 109
        · rw [if_pos h2] at h
          have hn := nu_ok (t := t) (lo := 2) (hi := 24) (pb := false) hl
          cases e : nu t 2 24 false (sk t i + 1) with
          | inl z => rw [e] at h; cases h
          | inr w =>
            rw [e] at h hn
            obtain ⟨n1, n2, n3, n4, n5, n6⟩ := hn
            exact ringL_ok f w.1 pt true p w.2 n2 hp ⟨n3, n4⟩ q h
        · rw [if_neg h2] at h
          cases h
theorem ringP_ok {q : Nat × Nat} (h : ringP t = .inr q) : pr q.1 ∧ 2 ≤ q.2 ∧ q.2 ≤ 24 := by
  unfold ringP at h
  have hg := sg_ok (t := t) (c := 115) (i := 0) (Nat.zero_le _) (by omega)
  cases e : sg t 115 0 with
  | inl z => rw [e] at h; cases h
  | inr j =>
    rw [e] at h hg
    exact ringL_ok 3 j false false 7 12 hg.2 ⟨by decide +kernel, by omega⟩ (by omega) q h
theorem ringL_le : ∀ (f i : Nat) (pt mt : Bool) (p m : Nat), i ≤ t.length → ∀ z, ringL t f i pt mt p m = .inl z → z ≤ t.length
  | 0, i, pt, mt, p, m, hi, z, h => by cases h
  | f + 1, i, pt, mt, p, m, hi, z, h => by
    unfold ringL at h
    by_cases h0 : tb t (sk t i) = 0
    · rw [if_pos h0] at h; cases h
    · rw [if_neg h0] at h
      have hl : sk t i + 1 ≤ t.length := by
        by_cases h3 : sk t i < t.length
        · omega
        · rw [tb_ge (by omega)] at h0; exact absurd rfl h0
      by_cases h1 : pt = false ∧ tb t (sk t i) = 112
      · rw [if_pos h1] at h
        have hn := nu_ok (t := t) (lo := 2) (hi := 997) (pb := true) hl
        cases e : nu t 2 997 true (sk t i + 1) with
        | inl w =>
          rw [e] at h hn
          cases h
          exact hn
        | inr w =>
          rw [e] at h hn
          exact ringL_le f w.1 true mt w.2 m hn.2.1 z h
      · rw [if_neg h1] at h
        by_cases h2 : mt = false ∧ tb t (sk t i) = 109
        · rw [if_pos h2] at h
          have hn := nu_ok (t := t) (lo := 2) (hi := 24) (pb := false) hl
          cases e : nu t 2 24 false (sk t i + 1) with
          | inl w =>
            rw [e] at h hn
            cases h
            exact hn
          | inr w =>
            rw [e] at h hn
            exact ringL_le f w.1 pt true p w.2 hn.2.1 z h
        · rw [if_neg h2] at h
          cases h
          omega
theorem ringP_ne {z : Nat} (h : ringP t = .inl z) (hl : t.length ≤ 320) : ¬ nI z = -1 := by
  have hz : z ≤ t.length := by
    unfold ringP at h
    have hg := sg_ok (t := t) (c := 115) (i := 0) (Nat.zero_le _) (by omega)
    cases e : sg t 115 0 with
    | inl w =>
      rw [e] at h hg
      cases h
      exact hg
    | inr j =>
      rw [e] at h hg
      exact ringL_le 3 j false false 7 12 hg.2 z h
  exact m1_ne (by omega)
theorem k_ringT (ok : okW p M s hs im sc) (h : kI g I t p M s hs im sc rf) {q : Nat × Nat} (hq : pr q.1 ∧ 2 ≤ q.2 ∧ q.2 ≤ 24) (e5 : I 11 5 = nI q.1) (e6 : I 11 6 = nI q.2) (k : ∀ I', kI g I' t q.1 q.2 s0 [] none sc rf → kFr g g I I' → Q (some (.int (nI q.1))) g I' J) : qC (d + 2) 133 [.ref 4] g I J Q := by
  obtain ⟨hg, hrc, h80, hT, hR, hS, ⟨nx, hH⟩, hM, hC, hf⟩ := h
  have hsh := hg.1
  have hp2 := hq.1.two
  have hp9 := hq.1.2
  refine w133 hsh ?_
  rw [e5, e6]
  refine w1 hsh (brN (by rw [nI_ltI (by omega) (by omega)]; omega) (brN (by rw [nI_ltI (by omega) (by omega)]; omega) (brN (by rw [nI_ltI (by omega) (by omega)]; omega) ⟨rfl, ?_⟩)))
  refine k_clearSt (hsh.sta rfl (by omega)) (fun I2 S2 f2 => ⟨rfl, w38 hsh ⟨rfl, ?_⟩⟩)
  generalize hI3 : qw (qw (qw I2 101 2 (nI 0)) 4 14 (nI 1)) 4 15 (nI 0) = I3
  have f3 : ∀ b, b ≠ 4 → b ≠ 101 → I3 b = I2 b := fun b b1 b2 => by rw [← hI3, zu_a b1, zu_a b1, zu_a b2]
  have f : ∀ b, b ≠ 4 → b ≠ 12 → b ≠ 101 → (b < 89 ∨ 92 < b) → I3 b = I b := fun b b1 b2 b3 b4 => by rw [f3 b b1 b3, f2 b b4, zu_a b2, zu_a b2]
  have f4 : ∀ j, j ≠ 14 → j ≠ 15 → I3 4 j = I 4 j := fun j j1 j2 => by rw [← hI3, zu_k j2, zu_k j1, zu_a (by omega), f2 4 (by omega), zu_a (by omega), zu_a (by omega)]
  have e12 : I3 12 = qw (qw I 12 7 (nI q.1)) 12 8 (nI q.2) 12 := by rw [f3 12 (by omega) (by omega), f2 12 (by omega)]
  have e127 : I3 12 7 = nI q.1 := by rw [e12, zu_k (by omega), zu_s]
  rw [e127]
  refine k I3 ⟨hg, hrc, by rw [f 8 (by omega) (by omega) (by omega) (by omega)]; exact h80, hT.keep (f 5 (by omega) (by omega) (by omega) (by omega)) (f 6 (by omega) (by omega) (by omega) (by omega)), ⟨?_, fun _ => ⟨by rw [e127, nI_iI], by rw [e12, zu_s]⟩⟩, S2.keep (fun b b1 b2 => f3 b (by omega) (by omega)), ⟨nx, ?_, hH.2.1, ?_, Nat.zero_le _, fun j q hj => (by cases hj)⟩, ?_, hC.keepE (fun _ => rfl) (Nat.le_refl _) (fun x n _ _ h3 => h3) (f4 13 (by omega) (by omega)) (fun x n h1 h2 h3 b b1 b2 => f b (by omega) (by omega) (by omega) (by omega)), fun i hi => by rw [f 104 (by omega) (by omega) (by omega) (by omega)]; exact hf i hi⟩ (kFr.same (fun b hb => f b (by omega) (by omega) (by omega) (by omega)))
  · rw [if_neg (by omega), ← hI3, zu_k (by omega), zu_s]
  · rw [← hI3, zu_a (by omega), zu_a (by omega), zu_k (by omega), f2 101 (by omega), zu_a (by omega), zu_a (by omega)]; exact hH.1
  · rw [← hI3, zu_a (by omega), zu_a (by omega), zu_s]; rfl
  · show I3 4 15 = nI 0
    rw [← hI3, zu_s]
theorem r_zero_l (hsh : qSh g) {i1 : Int32} (k : ∀ I', (∀ b, b ≠ 111 → I' b = I b) → (∀ j, j < 381 → I' 111 j = nI 0) → Q (some (.int ((qw (qw I' 105 22 (nI 0)) 105 23 (nI 0)) 105 7))) g (qw (qw I' 105 22 (nI 0)) 105 23 (nI 0)) J) : ∀ f i I', i + f = 381 → (∀ b, b ≠ 111 → I' b = I b) → (∀ j, j < i → I' 111 j = nI 0) → qev (d + 1) 176 (134, [.ref 105, .int i1, .int (nI i)], [], g, I', J) Q
  | 0, i, I', hi, f1, f2 => w176_134 hsh (brT (by rw [nI_leI (by omega) (by omega)]; omega) (k I' f1 (fun j hj => f2 j (by omega))))
  | f + 1, i, I', hi, f1, f2 => by
    refine w176_134 hsh (brN (by rw [nI_leI (by omega) (by omega)]; omega) ⟨i, rfl, by omega, ?_⟩)
    rw [nI_add]
    refine r_zero_l hsh k f (i + 1) _ (by omega) (fun b hb => by rw [zu_a hb]; exact f1 b hb) (fun j hj => ?_)
    by_cases e : j = i
    · rw [e]; exact zu_s
    · rw [zu_k e]; exact f2 j (by omega)
/-- one row of codes to another -/
theorem r_cpStep_l (hsh : qSh g) {a b : Nat} (ha : a < 41) (hb : b < 41) (hne : a ≠ b) (k : ∀ I', (∀ c, c ≠ 109 → I' c = I c) → (∀ j, j < 280 → I' 109 (280 * b + j) = I 109 (280 * a + j)) → (∀ j, (j < 280 * b ∨ 280 * b + 280 ≤ j) → I' 109 j = I 109 j) → Q none g I' J) : ∀ f i I', i + f = 280 → (∀ c, c ≠ 109 → I' c = I c) → (∀ j, j < i → I' 109 (280 * b + j) = I 109 (280 * a + j)) → (∀ j, (j < 280 * b ∨ 280 * b + 280 ≤ j) → I' 109 j = I 109 j) → qev d 175 (26, [.ref 105, .int (nI a), .int (nI b), .int (nI i)], [], g, I', J) Q
  | 0, i, I', hi, f1, f2, f3 => w175_26 hsh (brT (by rw [nI_leI (by omega) (by omega)]; omega) (k I' f1 (fun j hj => f2 j (by omega)) f3))
  | f + 1, i, I', hi, f1, f2, f3 => by
    refine w175_26 hsh (brN (by rw [nI_leI (by omega) (by omega)]; omega) ⟨280 * a + i, by rw [pk_mul, nI_add], by omega, 280 * b + i, by rw [pk_mul, nI_add], by omega, ?_⟩)
    rw [nI_add]
    refine r_cpStep_l hsh ha hb hne k f (i + 1) _ (by omega) (fun c hc => by rw [zu_a hc]; exact f1 c hc) (fun j hj => ?_) (fun j hj => by rw [zu_k (by omega)]; exact f3 j hj)
    by_cases e : j = i
    · rw [e, zu_s]; exact f3 _ (by omega)
    · rw [zu_k (by omega)]; exact f2 j (by omega)
theorem r_cpStep (hsh : qSh g) {a b : Nat} (ha : a < 41) (hb : b < 41) (hne : a ≠ b) {u v : Int32} (hu : u = nI a) (hv : v = nI b) (k : ∀ I', (∀ c, c ≠ 107 → c ≠ 108 → c ≠ 109 → I' c = I c) → I' 107 b = I 107 a → I' 108 b = I 108 a → (∀ j, j ≠ b → I' 107 j = I 107 j ∧ I' 108 j = I 108 j) → (∀ j, j < 280 → I' 109 (280 * b + j) = I 109 (280 * a + j)) → (∀ j, (j < 280 * b ∨ 280 * b + 280 ≤ j) → I' 109 j = I 109 j) → Q none g I' J) : qC d 175 [.ref 105, .int u, .int v] g I J Q := by
  subst hu hv
  refine w175 hsh ⟨a, rfl, ha, b, rfl, hb, a, rfl, ha, b, rfl, hb, ?_⟩
  generalize hI1 : qw (qw I 107 b (I 107 a)) 108 b (qw I 107 b (I 107 a) 108 a) = I1
  have e1 : ∀ c, c ≠ 107 → c ≠ 108 → I1 c = I c := fun c c1 c2 => by rw [← hI1, zu_a c2, zu_a c1]
  refine r_cpStep_l hsh ha hb hne (fun I2 f1 f2 f3 => k I2 (fun c c1 c2 c3 => by rw [f1 c c3, e1 c c1 c2]) ?_ ?_ (fun j hj => ⟨?_, ?_⟩) (fun j hj => by rw [f2 j hj, e1 109 (by omega) (by omega)]) (fun j hj => by rw [f3 j hj, e1 109 (by omega) (by omega)])) 280 0 I1 (by omega) (fun _ _ => rfl) (fun j hj => absurd hj (Nat.not_lt_zero j)) (fun _ _ => rfl)
  · rw [f1 107 (by omega), ← hI1, zu_a (by omega), zu_s]
  · rw [f1 108 (by omega), ← hI1, zu_s, zu_a (by omega)]
  · rw [f1 107 (by omega), ← hI1, zu_a (by omega), zu_k hj]
  · rw [f1 108 (by omega), ← hI1, zu_k hj, zu_a (by omega)]
/-- STEPS of a SCRIPT to their place -/
theorem r_cpScr_l (hsh : qSh g) {c n : Nat} (hc : c < 4) (hn : n ≤ 8) (h110 : I 110 4 = nI n) (h13 : I 105 13 = nI c) {i1 : Int32} (k : ∀ I', (∀ b, b ≠ 107 → b ≠ 108 → b ≠ 109 → I' b = I b) → (∀ j, j < n → I' 107 (8 * c + j) = I 107 (32 + j) ∧ I' 108 (8 * c + j) = I 108 (32 + j) ∧ ∀ i, i < 280 → I' 109 (280 * (8 * c + j) + i) = I 109 (280 * (32 + j) + i)) → (∀ j, j < 8 * c → I' 107 j = I 107 j ∧ I' 108 j = I 108 j) → (∀ j, j < 280 * (8 * c) → I' 109 j = I 109 j) → ∃ k1, (I' 105 13) = nI k1 ∧ k1 < 5 ∧ Q (some (.int (((qw (qw I' 110 k1 (I' 110 4)) 105 13 (((qw I' 110 k1 (I' 110 4)) 105 13) + (nI 1))) 105 13) - (nI 1)))) g (qw (qw I' 110 k1 (I' 110 4)) 105 13 (((qw I' 110 k1 (I' 110 4)) 105 13) + (nI 1))) J) : ∀ f i I', i + f = n → (∀ b, b ≠ 107 → b ≠ 108 → b ≠ 109 → I' b = I b) → (∀ j, j < i → I' 107 (8 * c + j) = I 107 (32 + j) ∧ I' 108 (8 * c + j) = I 108 (32 + j) ∧ ∀ q, q < 280 → I' 109 (280 * (8 * c + j) + q) = I 109 (280 * (32 + j) + q)) → (∀ j, (j < 8 * c ∨ 8 * c + i ≤ j) → I' 107 j = I 107 j ∧ I' 108 j = I 108 j) → (∀ j, (j < 280 * (8 * c) ∨ 280 * (8 * c + i) ≤ j) → I' 109 j = I 109 j) → qev (d + 1) 176 (51, [.ref 105, .int i1, .int (nI i)], [], g, I', J) Q
  | 0, i, I', hi, f1, f2, f3, f4 => w176_51 hsh (brT (by rw [f1 110 (by omega) (by omega) (by omega), h110, nI_leI (by omega) (by omega)]; omega) (k I' f1 (fun j hj => f2 j (by omega)) (fun j hj => f3 j (by omega)) (fun j hj => f4 j (by omega))))
  | f + 1, i, I', hi, f1, f2, f3, f4 => by
    refine w176_51 hsh (brN (by rw [f1 110 (by omega) (by omega) (by omega), h110, nI_leI (by omega) (by omega)]; omega) ?_)
    refine r_cpStep hsh (a := 32 + i) (b := 8 * c + i) (by omega) (by omega) (by omega) (nI_add _ _) (by rw [f1 105 (by omega) (by omega) (by omega), h13, pk_mul, nI_add]) (fun I2 g1 g2 g3 g4 g5 g6 => ⟨rfl, ?_⟩)
    rw [nI_add]
    refine r_cpScr_l hsh hc hn h110 h13 k f (i + 1) I2 (by omega) (fun b b1 b2 b3 => by rw [g1 b b1 b2 b3, f1 b b1 b2 b3]) (fun j hj => ?_) (fun j hj => ?_) (fun j hj => ?_)
    · by_cases e : j = i
      · subst e
        have h9 := f3 (32 + j) (by omega)
        exact ⟨by rw [g2]; exact h9.1, by rw [g3]; exact h9.2, fun q hq => by rw [g5 q hq]; exact f4 _ (by omega)⟩
      · obtain ⟨a1, a2, a3⟩ := f2 j (by omega)
        exact ⟨by rw [(g4 (8 * c + j) (by omega)).1]; exact a1, by rw [(g4 (8 * c + j) (by omega)).2]; exact a2, fun q hq => by rw [g6 _ (by omega)]; exact a3 q hq⟩
    · obtain ⟨a1, a2⟩ := f3 j (by omega)
      exact ⟨by rw [(g4 j (by omega)).1]; exact a1, by rw [(g4 j (by omega)).2]; exact a2⟩
    · rw [g6 j (by omega)]; exact f4 j (by omega)
theorem rRF.tp (h : rI I t p M s hs im sc rf) (ok : okW p M s hs im sc) (f : rRF I I') : rI (qw I' 105 2 (nI 0)) [] p M s hs im sc rf := (h.keep ok f.kp).tp ok (fun b b1 b2 => zu_a b1) (fun q q1 q2 => zu_k q2) (h.keep ok f.kp).1.none
theorem c_text (ok : okW p M s hs im sc) (hl : t.length ≤ 320) : bOK 102 176 [.int x1] (t, p, M, s, hs, im, sc, rf) := by
  have h4 := ok.2.1
  rcases cls x1 2 (by omega) with ⟨u, hu, rfl⟩ | hx
  · rcases (show u = 0 ∨ u = 1 by omega) with rfl | rfl
    · -- a RING
      have n01 : ¬ nI 0 = nI 1 := by decide +kernel
      have K : ∀ (d : Nat) (g : qG) (I : qI) (J : qJ) (Q : qQ), kI g I t p M s hs im sc rf → qC (d + 89) 48 [.ref 11, .int (nI 0)] g I J (fun v _ I1 _ => ∃ r1, v = some (.int r1) ∧ ((r1 = (-1) → qC (d + 89) 133 [.ref 4] g (qw I1 5 1 (nI 0)) J (fun v _ I3 _ => ∃ r3, v = some (.int r3) ∧ Q (some (.int r3)) g I3 J)) ∧ (¬ r1 = (-1) → Q (some (.int (-1))) g I1 J))) → qC (d + 90) 102 [.ref 4, .int (nI 0)] g I J Q := by
        intro d g I J Q h k
        refine w102 (br0 (w102_11 h.1.1 (brN n01 (k.mono (fun v g1 I1 J1 hk => ?_)))))
        obtain ⟨r1, e1, k1, k2⟩ := hk
        exact ⟨r1, e1, fun e => br0 (k1 e), k2⟩
      have R : ∀ (d : Nat) (g : qG) (I : qI) (J : qJ) (Q : qQ), qSh g → rI I t p M s hs im sc rf → qC (d + 89) 174 [.ref 105, .int (nI 0)] g (qw I 105 0 (nI 0)) J (fun v _ I1 _ => ∃ r2, v = some (.int r2) ∧ ((r2 = (-1) → qev (d + 90) 176 (134, [.ref 105, .int (nI 0), .int (nI 0)], [], g, (qw (qw (qw I1 105 2 (nI 0)) 105 7 ((qw I1 105 2 (nI 0)) 105 5)) 105 8 ((qw (qw I1 105 2 (nI 0)) 105 7 ((qw I1 105 2 (nI 0)) 105 5)) 105 6)), J) Q) ∧ (¬ r2 = (-1) → Q (some (.int (-1))) g I1 J))) → qC (d + 90) 176 [.ref 105, .int (nI 0)] g I J Q := by
        intro d g I J Q hsh h k
        refine w176 hsh (r_in rfl (by omega) (fun _ _ _ => ⟨_, rfl, br1 (brN n01 (k.mono (fun v g1 I1 J1 hk => ?_)))⟩) (fun h0 => absurd rfl (h0 0 (by omega))))
        obtain ⟨r1, e1, k1, k2⟩ := hk
        exact ⟨r1, e1, fun e => brN n01 (k1 e), k2⟩
      cases e : ringP t with
      | inl z =>
        refine ⟨-1, (t, p, M, s, hs, im, sc, rf), ok, fun d g I J Q h k => ?_, fun d g I J Q hsh h k => ?_⟩
        · have h : kI g I t p M s hs im sc rf := h
          refine K d g I J Q h (k_fault0 h.1.1 h.2.2.2.1 ?_)
          rw [e]
          exact fun I1 f => ⟨_, rfl, ⟨fun e1 => absurd e1 (ringP_ne e hl), fun _ => k g I1 J (h.gf f).1 (h.gf f).2⟩⟩
        · have h2 := rI.keep h ok rKp.th
          refine R d g I J Q hsh h (r_fault0 hsh h2.1 ?_)
          rw [e]
          exact fun I1 f => ⟨_, rfl, ⟨fun e1 => absurd e1 (ringP_ne e hl), fun _ => k I1 J (h2.keep ok f.kp) (rKp.trans rKp.th f.kp).fr⟩⟩
      | inr q =>
        have hq := ringP_ok e
        have hp2 := hq.1.two
        have hp9 := hq.1.2
        have ok2 : okW q.1 q.2 s0 [] none sc := okW.mk hq.1 hq.2 ⟨fun r _ => ⟨Nat.zero_le _, zero_ok q.1 0 (by omega) (by omega)⟩, Nat.zero_le _, fun e he => (by cases he)⟩ (fun q hq => (by cases hq)) (fun q hq => (by cases hq)) ok.2
        refine ⟨nI q.1, ([], q.1, q.2, s0, [], none, sc, rf), ok2, fun d g I J Q h k => ?_, fun d g I J Q hsh h k => ?_⟩
        · have h : kI g I t p M s hs im sc rf := h
          refine K d g I J Q h (k_fault0 h.1.1 h.2.2.2.1 ?_)
          rw [e]
          refine fun I1 f e5 e6 => ⟨_, rfl, brT rfl ?_⟩
          have h1 := (h.gf f).1
          have h2 : kI g (qw I1 5 1 (nI 0)) [] p M s hs im sc rf := h1.tp (fun b b1 b2 => zu_a b1) h1.2.2.2.1.none
          exact k_ringT ok h2 hq (by rw [zu_a (by omega)]; exact e5) (by rw [zu_a (by omega)]; exact e6) (fun I2 h3 f3 => ⟨_, rfl, k g I2 J h3 (kFr.same (fun b hb => by rw [f3.1 b hb, zu_a (by omega), (h.gf f).2.1 b hb]))⟩)
        · have h2 := rI.keep h ok rKp.th
          refine R d g I J Q hsh h (r_fault0 hsh h2.1 ?_)
          rw [e]
          refine fun I1 f e5 e6 => ⟨_, rfl, brT rfl ?_⟩
          have h3 := rRF.tp h2 ok f
          generalize hI2 : qw (qw (qw I1 105 2 (nI 0)) 105 7 ((qw I1 105 2 (nI 0)) 105 5)) 105 8 ((qw (qw I1 105 2 (nI 0)) 105 7 ((qw I1 105 2 (nI 0)) 105 5)) 105 6) = I2
          have g7 : I2 105 7 = nI q.1 := by rw [← hI2, zu_k (by omega), zu_s, zu_k (by omega)]; exact e5
          have g8 : I2 105 8 = nI q.2 := by rw [← hI2, zu_s, zu_k (by omega), zu_k (by omega)]; exact e6
          have ga : ∀ b, b ≠ 105 → I2 b = qw I1 105 2 (nI 0) b := fun b hb => by rw [← hI2, zu_a hb, zu_a hb]
          have gf : ∀ j, j ≠ 7 → j ≠ 8 → I2 105 j = qw I1 105 2 (nI 0) 105 j := fun j j1 j2 => by rw [← hI2, zu_k j2, zu_k j1]
          refine r_zero_l hsh (fun I3 c1 c2 => ?_) 381 0 I2 (by omega) (fun _ _ => rfl) (fun j hj => absurd hj (Nat.not_lt_zero j))
          obtain ⟨hT, hRg, hS, ⟨fs, hH⟩, hM, hC, hf⟩ := h3
          generalize hI4 : qw (qw I3 105 22 (nI 0)) 105 23 (nI 0) = I4
          have a4 : ∀ b, b ≠ 105 → b ≠ 111 → I4 b = qw I1 105 2 (nI 0) b := fun b b1 b2 => by rw [← hI4, zu_a b1, zu_a b1, c1 b b2, ga b b1]
          have f4 : ∀ j, j ≠ 22 → j ≠ 23 → I4 105 j = I2 105 j := fun j j1 j2 => by rw [← hI4, zu_k j2, zu_k j1, c1 105 (by omega)]
          have z4 : ∀ j, j < 381 → I4 111 j = nI 0 := fun j hj => by rw [← hI4, zu_a (by omega), zu_a (by omega)]; exact c2 j hj
          rw [f4 7 (by omega) (by omega), g7]
          refine k I4 J ⟨hT.keep (by rw [f4 2 (by omega) (by omega), gf 2 (by omega) (by omega)]) (a4 106 (by omega) (by omega)), ⟨by rw [f4 7 (by omega) (by omega), g7, nI_iI], fun _ => by rw [f4 8 (by omega) (by omega)]; exact g8⟩, ⟨fun r hr => ⟨z4 _ (by omega), fun i hi => absurd hi (Nat.not_lt_zero i)⟩, z4 _ (by omega), fun j e he => (by cases he)⟩, ⟨fs, ?_, hH.2.1, ?_, Nat.zero_le _, fun j q hj => (by cases hj)⟩, ?_, ⟨by rw [f4 13 (by omega) (by omega), gf 13 (by omega) (by omega)]; exact hC.1, fun j ss hj => ⟨by rw [a4 110 (by omega) (by omega)]; exact (hC.2 j ss hj).1, fun i q hi => ⟨by rw [a4 107 (by omega) (by omega)]; exact ((hC.2 j ss hj).2 i q hi).1, ((hC.2 j ss hj).2 i q hi).2.keepS (by rw [a4 108 (by omega) (by omega)]) (fun i _ _ => by rw [a4 109 (by omega) (by omega)])⟩⟩⟩, fun i hi => by rw [a4 116 (by omega) (by omega)]; exact hf i hi⟩ (fun b hb => by rw [a4 b (by omega) (by omega), zu_a (by omega), (rKp.trans rKp.th f.kp).fr b hb])
          · rw [f4 21 (by omega) (by omega), gf 21 (by omega) (by omega)]; exact hH.1
          · rw [← hI4, zu_k (by omega), zu_s]; rfl
          · show I4 105 23 = nI 0
            rw [← hI4, zu_s]
    · -- a SCRIPT
      by_cases hf4 : sc.length < 4
      · have K : ∀ (d : Nat) (g : qG) (I : qI) (J : qJ) (Q : qQ), kI g I t p M s hs im sc rf → qC (d + 89) 48 [.ref 11, .int (nI 1)] g I J (fun v _ I1 _ => ∃ r1, v = some (.int r1) ∧ ((r1 = (-1) → qC (d + 89) 134 [.ref 4] g (qw I1 5 1 (nI 0)) J (fun v g2 I5 J2 => ∃ r5, v = some (.int r5) ∧ qSh g2 ∧ Q (some (.int r5)) g2 I5 J2)) ∧ (¬ r1 = (-1) → Q (some (.int (-1))) g I1 J))) → qC (d + 90) 102 [.ref 4, .int (nI 1)] g I J Q := by
          intro d g I J Q h k
          refine w102 (br1 (brT rfl (w102_11 h.1.1 (brT rfl (brT (by rw [h.2.2.2.2.2.2.2.2.1.1, nI_ltI (by omega) (by omega)]; exact hf4) (k.mono (fun v g1 I1 J1 hk => ?_)))))))
          obtain ⟨r1, e1, k1, k2⟩ := hk
          exact ⟨r1, e1, fun e => br1 (k1 e), k2⟩
        have R : ∀ (d : Nat) (g : qG) (I : qI) (J : qJ) (Q : qQ), qSh g → rI I t p M s hs im sc rf → qC (d + 89) 174 [.ref 105, .int (nI 1)] g (qw I 105 0 (nI 0)) J (fun v _ I1 _ => ∃ r2, v = some (.int r2) ∧ ((r2 = (-1) → qev (d + 90) 176 (51, [.ref 105, .int (nI 1), .int (nI 0)], [], g, (qw I1 105 2 (nI 0)), J) Q) ∧ (¬ r2 = (-1) → Q (some (.int (-1))) g I1 J))) → qC (d + 90) 176 [.ref 105, .int (nI 1)] g I J Q := by
          intro d g I J Q hsh h k
          refine w176 hsh (r_in rfl (by omega) (fun _ _ _ => ⟨_, rfl, br1 (brT rfl (brN ?_ (k.mono (fun v g1 I1 J1 hk => ?_))))⟩) (fun h0 => absurd rfl (h0 1 (by omega))))
          · rw [zu_k (by omega), h.2.2.2.2.2.1.1, nI_eq (by omega) (by omega)]; omega
          · obtain ⟨r1, e1, k1, k2⟩ := hk
            exact ⟨r1, e1, fun e => brT rfl (k1 e), k2⟩
        cases e : stepsP t 8 0 [] with
        | inl z =>
          have hz : z ≤ t.length := by
            have h := stepsP_ok hl 8 0 [] (Nat.zero_le _) (fun q hq => (by cases hq))
            rw [e] at h; exact h
          have hzn : ¬ nI z = -1 := m1_ne (by omega)
          refine ⟨-1, (t, p, M, s, hs, im, sc, rf), ok, fun d g I J Q h k => ?_, fun d g I J Q hsh h k => ?_⟩
          · have h : kI g I t p M s hs im sc rf := h
            refine K d g I J Q h (k_fault1 h.1.1 h.2.2.2.1 h.2.2.1 (Or.inl ⟨rfl, rfl⟩) ?_)
            rw [e]
            exact fun I1 f => ⟨_, rfl, brN hzn (k g I1 J (h.sf f).1 (h.sf f).2)⟩
          · have h2 := rI.keep h ok rKp.th
            refine R d g I J Q hsh h (r_fault1 hsh h2.1 ?_)
            rw [e]
            exact fun I1 f => ⟨_, rfl, brN hzn (k I1 J (h2.keep ok f.kp) (rKp.trans rKp.th f.kp).fr)⟩
        | inr ss =>
          have hss : okSS ss := by
            have h := stepsP_ok hl 8 0 [] (Nat.zero_le _) (fun q hq => (by cases hq))
            rw [e] at h
            obtain ⟨a1, a2, a3⟩ := h
            exact ⟨a1, by have : ([] : List SP).length = 0 := rfl; omega, a3⟩
          have h8 := hss.2.1
          have ok2 : okW p M s hs im (sc ++ [ss]) := ⟨ok.1, by rw [List.length_append]; show sc.length + 1 ≤ 4; omega, fun zs hz => by
            rcases List.mem_append.mp hz with h | h
            · exact ok.2.2 zs h
            · rw [List.mem_singleton.mp h]; exact hss⟩
          refine ⟨nI sc.length, ([], p, M, s, hs, im, sc ++ [ss], rf), ok2, fun d g I J Q h k => ?_, fun d g I J Q hsh h k => ?_⟩
          · have h : kI g I t p M s hs im sc rf := h
            refine K d g I J Q h (k_fault1 h.1.1 h.2.2.2.1 h.2.2.1 (Or.inl ⟨rfl, rfl⟩) ?_)
            rw [e]
            refine fun I1 f c1 => ⟨_, rfl, brT rfl ?_⟩
            have h1 := (h.sf f).1
            have h2 : kI g (qw I1 5 1 (nI 0)) [] p M s hs im sc rf := h1.tp (fun b b1 b2 => zu_a b1) h1.2.2.2.1.none
            refine k_takeS (d := d + 87) h2 hf4 (c1.keep (zu_a (by omega)) (zu_a (by omega)) (zu_a (by omega)) (zu_a (by omega))) (fun g2 I2 J2 h3 F => ⟨_, rfl, h3.1.1, k g2 I2 J2 h3 ?_⟩)
            exact ⟨fun b hb => by rw [F.1 b hb, zu_a (by omega), (h.sf f).2.1 b hb], F.2⟩
          · have h2 := rI.keep h ok rKp.th
            refine R d g I J Q hsh h (r_fault1 hsh h2.1 ?_)
            rw [e]
            refine fun I1 f e4 c1 => ⟨_, rfl, brT rfl ?_⟩
            have h3 := rRF.tp h2 ok f
            generalize hI2 : qw I1 105 2 (nI 0) = I2 at h3 ⊢
            have i2 : ∀ b, b ≠ 105 → I2 b = I1 b := fun b hb => by rw [← hI2, zu_a hb]
            obtain ⟨hT, hRg, hS, ⟨fs, hH⟩, hM, hC, hf⟩ := h3
            refine r_cpScr_l hsh (c := sc.length) (n := ss.length) hf4 h8 (by rw [i2 110 (by omega)]; exact e4) hC.1 (fun I3 f1 f2 f3 f3' => ?_) ss.length 0 I2 (by omega) (fun _ _ _ _ => rfl) (fun j hj => absurd hj (Nat.not_lt_zero j)) (fun _ _ => ⟨rfl, rfl⟩) (fun _ _ => rfl)
            refine ⟨sc.length, by rw [f1 105 (by omega) (by omega) (by omega)]; exact hC.1, by omega, ?_⟩
            have e110 : I3 110 4 = nI ss.length := by rw [f1 110 (by omega) (by omega) (by omega), i2 110 (by omega)]; exact e4
            have e13 : ∀ v, qw I3 110 sc.length v 105 13 = nI sc.length := fun v => by rw [zu_a (by omega), f1 105 (by omega) (by omega) (by omega)]; exact hC.1
            rw [e110, e13, nI_add, zu_s, pk_sub (by omega), Nat.add_sub_cancel]
            generalize hI4 : qw (qw I3 110 sc.length (nI ss.length)) 105 13 (nI (sc.length + 1)) = I4
            have a4 : ∀ b, b ≠ 105 → b ≠ 110 → b ≠ 107 → b ≠ 108 → b ≠ 109 → I4 b = I2 b := fun b b1 b2 b3 b4 b5 => by rw [← hI4, zu_a b1, zu_a b2, f1 b b3 b4 b5]
            have a5 : ∀ j, j ≠ 13 → I4 105 j = I2 105 j := fun j hj => by rw [← hI4, zu_k hj, zu_a (by omega), f1 105 (by omega) (by omega) (by omega)]
            have a110 : ∀ j, j ≠ sc.length → I4 110 j = I2 110 j := fun j hj => by rw [← hI4, zu_a (by omega), zu_k hj, f1 110 (by omega) (by omega) (by omega)]
            have a10 : ∀ b, b ≠ 105 → b ≠ 110 → I4 b = I3 b := fun b b1 b2 => by rw [← hI4, zu_a b1, zu_a b2]
            refine k I4 J ⟨hT.keep (a5 2 (by omega)) (a4 106 (by omega) (by omega) (by omega) (by omega) (by omega)), ⟨by rw [a5 7 (by omega)]; exact hRg.1, fun hp => by rw [a5 8 (by omega)]; exact hRg.2 hp⟩, hS.keep (a4 111 (by omega) (by omega) (by omega) (by omega) (by omega)), ⟨fs, hH.keep (a5 21 (by omega)) (a5 22 (by omega)) (a4 114 (by omega) (by omega) (by omega) (by omega) (by omega))⟩, hM.keep (a5 23 (by omega)) (a4 113 (by omega) (by omega) (by omega) (by omega) (by omega)), ⟨by rw [← hI4, zu_s, List.length_append]; rfl, fun j zs hj => ?_⟩, fun i hi => by rw [a4 116 (by omega) (by omega) (by omega) (by omega) (by omega)]; exact hf i hi⟩ (fun b hb => by rw [a4 b (by omega) (by omega) (by omega) (by omega) (by omega), i2 b (by omega), (rKp.trans rKp.th f.kp).fr b hb])
            by_cases hj2 : j < sc.length
            · rw [List.getElem?_append_left hj2] at hj
              have hz8 := (ok.2.2 zs (List.mem_of_getElem? hj)).2.1
              obtain ⟨b1, b2⟩ := hC.2 j zs hj
              refine ⟨by rw [a110 j (by omega)]; exact b1, fun i q hi => ?_⟩
              have hil := getE_lt hi
              obtain ⟨b3, b4⟩ := b2 i q hi
              have b5 := f3 (8 * j + i) (by omega)
              exact ⟨by rw [a10 107 (by omega) (by omega), b5.1]; exact b3, b4.keepS (by rw [a10 108 (by omega) (by omega), b5.2]) (fun i i1 i2 => by rw [a10 109 (by omega) (by omega)]; exact f3' i (by omega))⟩
            · rw [List.getElem?_append_right (by omega)] at hj
              have hz : j - sc.length = 0 := by have := getE_lt hj; simpa using this
              rw [hz] at hj
              cases hj
              have ej : j = sc.length := by omega
              subst ej
              refine ⟨by rw [← hI4, zu_a (by omega), zu_s], fun i q hi => ?_⟩
              have hil := getE_lt hi
              obtain ⟨b3, b4⟩ := c1 i q hi
              obtain ⟨b5, b6, b7⟩ := f2 i hil
              refine ⟨by rw [a10 107 (by omega) (by omega), b5, i2 107 (by omega)]; exact b3, by rw [a10 108 (by omega) (by omega), b6, i2 108 (by omega)]; exact b4.1, b4.2.1, fun y o ho => ?_⟩
              have hyl := getE_lt ho
              have b4l := b4.2.1
              obtain ⟨b8, b9⟩ := b4.2.2 y o ho
              have m1 := b7 (2 * y) (by omega)
              have m2 := b7 (2 * y + 1) (by omega)
              rw [i2 109 (by omega)] at m1 m2
              exact ⟨by rw [a10 109 (by omega) (by omega), m1]; exact b8, fun ho1 => by rw [a10 109 (by omega) (by omega), show 280 * (8 * sc.length + i) + 2 * y + 1 = 280 * (8 * sc.length + i) + (2 * y + 1) by omega, m2]; exact b9 ho1⟩
      · refine ⟨-1, (t, p, M, s, hs, im, sc, rf), ok, fun d g I J Q h k => ?_, fun d g I J Q hsh h k => ?_⟩
        · have h : kI g I t p M s hs im sc rf := h
          refine w102 (br1 (brT rfl (w102_11 h.1.1 (brT rfl (brN ?_ (k g I J h (kFr.refl g I)))))))
          rw [h.2.2.2.2.2.2.2.2.1.1, nI_ltI (by omega) (by omega)]; omega
        · have h : rI I t p M s hs im sc rf := h
          have h2 := h.keep ok rKp.th
          refine w176 hsh (r_in rfl (by omega) (fun _ _ _ => ⟨_, rfl, br1 (brT rfl (brT ?_ (k _ J h2 rKp.th.fr)))⟩) (fun h0 => absurd rfl (h0 1 (by omega))))
          rw [h2.2.2.2.2.2.1.1, nI_eq (by omega) (by omega)]; omega
  · have n0 : ¬ x1 = 0 := fun e => hx 0 (by omega) (by rw [e, nI_0])
    have n1 : ¬ x1 = nI 1 := hx 1 (by omega)
    refine ⟨-1, (t, p, M, s, hs, im, sc, rf), ok, fun d g I J Q h k => ?_, fun d g I J Q hsh h k => ?_⟩
    · exact w102 (brN n0 (brN n1 (k g I J h (kFr.refl g I))))
    · have h2 := rI.keep h ok rKp.th
      exact w176 hsh (r_in rfl (by omega) (fun q hq e => absurd e (hx q hq)) (fun _ => ⟨_, rfl, br0 (k _ J h2 rKp.th.fr)⟩))
end TEXTS
