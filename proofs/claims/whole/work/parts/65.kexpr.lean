/-! the class reads expressions -/
def kRes (t : List Nat) (g : qG) (I : qI) (J : qJ) (ops : List (Nat × Nat)) (Q : qQ) (r : Rs) : Prop := match r with
  | .inl f => ∀ I', kRF I I' → I' 11 2 = nI f → Q (some (.int (nI 0))) g I' J
  | .inr (i', a', n) => ∀ I', kRF I I' → kRd t I' i' a' (ops ++ n) → Q (some (.int (nI 1))) g I' J
theorem kRes.fr {t : List Nat} {g : qG} {I I1 : qI} {J : qJ} {ops : List (Nat × Nat)} {Q : qQ} {r : Rs} (k : kRes t g I J ops Q r) (h : kRF I I1) : kRes t g I1 J ops Q r := by
  cases r with
  | inl f => exact fun I' h1 h2 => k I' (h.trans h1) h2
  | inr q => exact fun I' h1 h2 => k I' (h.trans h1) h2
def kEx (t : List Nat) (g : qG) (m x e : Nat) (E : Nat → Nat → Rs) : Prop := ∀ (d i a : Nat) (ops : List (Nat × Nat)) (I : qI) (J : qJ) (Q : qQ), kRd t I i a ops → kRes t g I J ops Q (E i a) → qC (d + e) m [.ref 11, .int (nI x)] g I J Q
def tlR (tl : List (Nat × Nat)) (r : Rs) : Rs := match r with
  | .inl f => .inl f
  | .inr (i, a, n) => .inr (i, a, n ++ tl)
theorem br_tl (t : List Nat) (E : Nat → Nat → Rs) (op : Bool) (i a : Nat) (tl : List (Nat × Nat)) : brF t E op i a tl = tlR tl (brF t E op i a []) := by
  unfold brF
  by_cases h : tb t (sk t i) = 40 ∧ op = true
  · rw [if_pos h, if_pos h]
    cases E (sk t i + 1) a with
    | inl f => rfl
    | inr q =>
      obtain ⟨i1, a1, n1⟩ := q
      dsimp only
      cases sg t 41 i1 with
      | inl f => rfl
      | inr j => dsimp only [tlR]; rw [List.append_nil]
  · rw [if_neg h, if_neg h]; rfl
section KEXPR
variable {d e : Nat} {g : qG} {I : qI} {J : qJ} {Q : qQ} {i a x : Nat} {t : List Nat} {ops : List (Nat × Nat)} {E : Nat → Nat → Rs} {op : Bool}
theorem k_nextR (hsh : qSh g) (h : kRd t I i a ops) (k : ∀ I', kNF I I' → kRd t I' (sk t i) a ops → Q (some (.int (nI (tb t (sk t i))))) g I' J) : qC d 67 [.ref 11] g I J Q :=
  k_next hsh h.1 h.2.1 h.2.2.1 (fun I' f p => k I' f (h.mv f p (sk_le t i) (sk_L h.2.2.1)))
theorem k_open (hsh : qSh g) (hx : x ≤ 8) (h : kRd t I i a ops) (k1 : tb t (sk t i) = 40 ∧ x < 8 → ∀ I', kNF I I' → kRd t I' (sk t i + 1) a ops → Q (some (.int (nI 1))) g I' J) (k0 : ¬ (tb t (sk t i) = 40 ∧ x < 8) → ∀ I', kNF I I' → I' 11 2 = nI (sk t i) → Q (some (.int (nI 0))) g I' J) : qC (d + 1) 63 [.ref 11, .int (nI x)] g I J Q := by
  have hb := h.1.2.2.2 (sk t i)
  refine w63 hsh (k_nextR hsh h (fun I1 f1 h1 => ⟨_, rfl, ?_⟩))
  rw [nI_eq (by omega) (by omega), nI_ltI (by omega) (by omega)]
  have := h1.2.1
  by_cases c1 : tb t (sk t i) = 40
  · refine brT c1 ?_
    by_cases c2 : x < 8
    · exact brT c2 (k1 ⟨c1, c2⟩ _ (f1.trans kNF.w2) (h1.mv kNF.w2 (by rw [zu_s, h1.2.1, nI_add]) (by omega) (tb_lt (by omega))))
    · exact brN c2 (k0 (fun h => c2 h.2) _ f1 h1.2.1)
  · exact brN c1 (k0 (fun h => c1 h.1) _ f1 h1.2.1)
theorem k_brk (hsh : qSh g) (hx8 : x ≤ 8) (hx : op = true ↔ x < 8) (hE : op = true → kEx t g 53 (x + 1) (e + 1) E) : kEx t g 62 x (e + 2) (fun i a => brF t E op i a []) := by
  intro d i a ops I J Q h k
  dsimp only at k
  unfold brF at k
  refine w62 hsh (k_open hsh hx8 h (fun c I1 f1 h1 => ⟨_, rfl, br1 ?_⟩) (fun c I1 f1 p1 => ⟨_, rfl, br0 ?_⟩))
  · rw [if_pos ⟨c.1, hx.mpr c.2⟩] at k
    rw [nI_add]
    refine hE (hx.mpr c.2) _ _ _ _ _ _ _ h1 ?_
    cases hr : E (sk t i + 1) a with
    | inl f => rw [hr] at k; exact fun I' f2 p2 => ⟨_, rfl, br0 (k I' (f1.rf.trans f2) p2)⟩
    | inr q =>
      obtain ⟨i1, a1, n1⟩ := q
      rw [hr] at k
      dsimp only at k
      refine fun I2 f2 h2 => ⟨_, rfl, br1 (k_sign hsh h2.1 h2.2.1 h2.2.2.1 (by omega) ?_)⟩
      have hsg := sg_ok (t := t) (c := 41) h2.2.2.1 (by omega)
      cases hs : sg t 41 i1 with
      | inl f => rw [hs] at k; exact fun I' f3 p3 _ => ⟨_, rfl, br0 (k I' ((f1.rf.trans f2).trans f3.rf) p3)⟩
      | inr j =>
        rw [hs] at k hsg
        rw [List.append_nil] at k
        exact fun I' f3 p3 => ⟨_, rfl, br1 (k I' ((f1.rf.trans f2).trans f3.rf) (h2.mv f3 p3 (Nat.le_of_lt hsg.1) hsg.2))⟩
  · rw [if_neg (fun h => c ⟨h.1, hx.mp h.2⟩)] at k
    exact k I1 f1.rf p1
/-- a bracket and its code -/
theorem k_btl (hsh : qSh g) (hx8 : x ≤ 8) (hx : op = true ↔ x < 8) (hE : op = true → kEx t g 53 (x + 1) (e + 1) E) (hG : gdE t 3 E) (h : kRd t I i a ops) {o : Nat × Nat} {K A : Int32} (hK : K = nI (kop o.1)) (hA : A = nI o.2) (k : kRes t g I J ops Q (brF t E op i a [o])) :
    qC (d + (e + 2)) 62 [.ref 11, .int (nI x)] g I J (fun v _ I2 _ => ∃ r2, v = some (.int r2) ∧ ((r2 = 0 → Q (some (.int (nI 0))) g I2 J) ∧ (¬ r2 = 0 → qC (d + (e + 2)) 33 [.ref 7, .int K, .int A] g I2 J (fun v _ I3 _ => ∃ r3, v = some (.int r3) ∧ ((r3 = 0 → Q (some (.int (nI 0))) g I3 J) ∧ (¬ r3 = 0 → Q (some (.int (nI 1))) g I3 J)))))) := by
  refine k_brk hsh hx8 hx hE d i a ops I J _ h ?_
  have hg := br_ok (op := op) hG h.2.2.1 h.2.2.2.2.1 (tl := []) (Or.inl rfl)
  rw [br_tl] at k
  dsimp only
  cases hr : brF t E op i a [] with
  | inl f => rw [hr] at k; exact fun I' f2 p2 => ⟨_, rfl, br0 (k I' f2 p2)⟩
  | inr q =>
    obtain ⟨i1, a1, n1⟩ := q
    rw [hr] at k hg
    have hl : n1.length + i + 2 ≤ i1 + 0 := hg.2.2.2.2.1
    have h6 := h.2.2.2.2.2.2.1
    refine fun I2 f2 h2 => ⟨_, rfl, br1 (k_add hsh h2 (by rw [List.length_append]; omega) hK hA (fun I3 h3 f3 => ⟨_, rfl, br1 (k I3 (f2.trans f3) ?_)⟩))⟩
    rw [List.append_assoc] at h3
    exact h3
theorem kRd.step {t : List Nat} {I : qI} {i a : Nat} {ops : List (Nat × Nat)} (h : kRd t I i a ops) (hi : i < t.length) : kRd t (qw I 11 2 (I 11 2 + nI 1)) (i + 1) a ops := h.mv kNF.w2 (by rw [zu_s, h.2.1, nI_add]) (by omega) (by omega)
theorem k_one58 (hsh : qSh g) (hx8 : x ≤ 8) (hx : op = true ↔ x < 8) (hE : op = true → kEx t g 53 (x + 1) (e + 1) E) (hG : gdE t 3 E) (h : kRd t I i a ops) (hi : i < t.length) {w : Nat} (k : kRes t g I J ops Q (brF t E op (i + 1) a [(w, 0)])) : qC (d + (e + 3)) 58 [.ref 11, .int (nI x), .int (nI (kop w))] g I J Q :=
  w58 hsh (k_btl hsh hx8 hx hE hG (h.step hi) rfl rfl (k.fr kNF.w2.rf))
theorem k_root59 (hsh : qSh g) (hx8 : x ≤ 8) (hx : op = true ↔ x < 8) (hE : op = true → kEx t g 53 (x + 1) (e + 1) E) (hG : gdE t 3 E) (h : kRd t I i a ops) (hi : i < t.length) (k : kRes t g I J ops Q (fuF t E op 81 i a)) : qC (d + (e + 3)) 59 [.ref 11, .int (nI x)] g I J Q := by
  have hb := h.1.2.2.2 (sk t (i + 1))
  have k : kRes t g I J ops Q (if 50 ≤ tb t (sk t (i + 1)) ∧ tb t (sk t (i + 1)) ≤ 57 then brF t E op (sk t (i + 1) + 1) a [(13, tb t (sk t (i + 1)) - 48)] else .inl (sk t (i + 1))) := k
  refine w59 hsh (k_nextR hsh (h.step hi) (fun I1 f1 h1 => ⟨_, rfl, ?_⟩))
  rw [nI_ltI (by omega) (by omega), nI_leI (by omega) (by omega)]
  by_cases c1 : tb t (sk t (i + 1)) < 50
  · rw [if_neg (by omega)] at k
    exact brT c1 (k I1 (kNF.w2.trans f1).rf h1.2.1)
  · refine brN c1 ?_
    by_cases c2 : tb t (sk t (i + 1)) ≤ 57
    · rw [if_pos (by omega)] at k
      rw [pk_sub (by omega)]
      exact brT c2 (k_btl hsh hx8 hx hE hG (h1.step (tb_lt (by omega))) rfl rfl (k.fr ((kNF.w2.trans f1).trans kNF.w2).rf))
    · rw [if_neg (by omega)] at k
      exact brN c2 (k I1 (kNF.w2.trans f1).rf h1.2.1)
theorem k_short60 (hsh : qSh g) (hx8 : x ≤ 8) (hx : op = true ↔ x < 8) (hE : op = true → kEx t g 53 (x + 1) (e + 1) E) (hG : gdE t 3 E) (h : kRd t I i a ops) (hi : i < t.length) (k : kRes t g I J ops Q (fuF t E op 84 i a)) : qC (d + (e + 3)) 60 [.ref 11, .int (nI x)] g I J Q := by
  have k : kRes t g I J ops Q (match nu t 1 24 false (i + 1) with
    | .inl f => .inl f
    | .inr (j2, v) => brF t E op j2 a [(14, v)]) := k
  have h' := h.step hi
  have hn := nu_ok (t := t) (lo := 1) (hi := 24) (pb := false) (i := i + 1) hi
  refine w60 hsh (k_num hsh h'.1 h'.2.1 h'.2.2.1 (by omega) ?_)
  cases hr : nu t 1 24 false (i + 1) with
  | inl f => rw [hr] at k; exact fun I1 f1 p1 => ⟨_, rfl, br0 (k I1 (kNF.w2.trans f1).rf p1)⟩
  | inr q =>
    obtain ⟨j2, v⟩ := q
    rw [hr] at k hn
    dsimp only at k
    refine fun I1 f1 p1 p2 => ⟨_, rfl, br1 ?_⟩
    exact k_btl hsh hx8 hx hE hG (h'.mv f1 p1 (Nat.le_of_lt hn.1) hn.2.1) (o := (14, v)) rfl p2 (k.fr (kNF.w2.trans f1).rf)
theorem k_mat_l (hsh : qSh g) (hE : kEx t g 53 x (e + 1) E) (hG : gdE t 3 E) {I0 : qI} : ∀ (f c i a : Nat) (acc : List (Nat × Nat)) (I : qI), c + f = 6 → 1 ≤ c → kRd t I i a (ops ++ acc) → kRF I0 I → kRes t g I0 J ops Q (hL t E f c i a acc) → qev (d + (e + 2)) 61 (12, [.ref 11, .int (nI x), .int (nI c)], [], g, I, J) Q
  | 0, c, i, a, acc, I, hc, hc1, h, f0, k => by
    refine w61_12 hsh (brT (by rw [nI_leI (by omega) (by omega)]; omega) (k_sign hsh h.1 h.2.1 h.2.2.1 (by omega) ?_))
    unfold hL at k
    have hsg := sg_ok (t := t) (c := 41) h.2.2.1 (by omega)
    cases hs : sg t 41 i with
    | inl f => rw [hs] at k; exact fun I' f3 p3 _ => ⟨_, rfl, Or.inl nI_0, k I' (f0.trans f3.rf) p3⟩
    | inr j => rw [hs] at k hsg; exact fun I' f3 p3 => ⟨_, rfl, Or.inr nI_one, k I' (f0.trans f3.rf) (h.mv f3 p3 (Nat.le_of_lt hsg.1) hsg.2)⟩
  | f + 1, c, i, a, acc, I, hc, hc1, h, f0, k => by
    unfold hL at k
    have go : ∀ (I1 : qI) (i1 : Nat), kRd t I1 i1 a (ops ++ acc) → kRF I0 I1 → sk t i1 = sk t i → ¬ (2 ≤ c ∧ tb t (sk t i) = 41) → qC (d + (e + 1)) 64 [.ref 11, .int (nI 44)] g I1 J (fun v _ I2 _ => ∃ r2, v = some (.int r2) ∧ ((r2 = 0 → Q (some (.int (nI 0))) g I2 J) ∧ (¬ r2 = 0 → qC (d + (e + 1)) 53 [.ref 11, .int (nI x)] g I2 J (fun v _ I3 _ => ∃ r3, v = some (.int r3) ∧ ((r3 = 0 → Q (some (.int (nI 0))) g I3 J) ∧ (¬ r3 = 0 → qC (d + (e + 1)) 33 [.ref 7, .int (nI 16), .int (nI 0)] g I3 J (fun v _ I4 _ => ∃ r4, v = some (.int r4) ∧ ((r4 = 0 → Q (some (.int (nI 0))) g I4 J) ∧ (¬ r4 = 0 → qev (d + (e + 2)) 61 (12, [.ref 11, .int (nI x), .int (nI c + (nI 1))], [], g, I4, J) Q))))))))) := fun I1 i1 h1 f1 e1 hn => by
      rw [if_neg hn] at k
      have es : sg t 44 i1 = sg t 44 i := by unfold sg; rw [e1]
      refine k_sign hsh h1.1 h1.2.1 h1.2.2.1 (by omega) ?_
      have hsg := sg_ok (t := t) (c := 44) h1.2.2.1 (by omega)
      rw [es] at hsg ⊢
      cases hs : sg t 44 i with
      | inl f => rw [hs] at k; exact fun I' f3 p3 _ => ⟨_, rfl, br0 (k I' (f1.trans f3.rf) p3)⟩
      | inr j =>
        rw [hs] at k hsg
        dsimp only at k
        refine fun I2 f2 p2 => ⟨_, rfl, br1 ?_⟩
        have h2 := h1.mv f2 p2 (Nat.le_of_lt hsg.1) hsg.2
        have hg := hG j a h2.2.2.1 h2.2.2.2.2.1
        have h6 := h1.2.2.2.2.2.2.1
        refine hE d _ _ _ _ _ _ h2 ?_
        cases hr : E j a with
        | inl f => rw [hr] at k; exact fun I' f3 p3 => ⟨_, rfl, br0 (k I' ((f1.trans f2.rf).trans f3) p3)⟩
        | inr q =>
          obtain ⟨i3, a3, n3⟩ := q
          rw [hr] at k hg
          dsimp only at k
          have hl : n3.length + j ≤ i3 := hg.2.2.2.2.1
          have hsg1 : i1 < j := hsg.1
          refine fun I3 f3 h3 => ⟨_, rfl, br1 (k_add hsh h3 (by simp only [List.length_append] at h6 ⊢; omega) (o := (16, 0)) rfl rfl (fun I4 h4 f4 => ⟨_, rfl, br1 ?_⟩))⟩
          rw [nI_add]
          refine k_mat_l hsh hE hG f (c + 1) i3 a3 _ I4 (by omega) (by omega) ?_ (((f1.trans f2.rf).trans f3).trans f4) k
          simp only [List.append_assoc] at h4 ⊢
          exact h4
    refine w61_12 hsh (brN (by rw [nI_leI (by omega) (by omega)]; omega) ?_)
    rw [nI_ltI (by omega) (by omega)]
    by_cases c2 : c < 2
    · exact brT c2 (go I i h f0 rfl (by omega))
    · refine brN c2 (k_sign hsh h.1 h.2.1 h.2.2.1 (by omega) ?_)
      have hsg := sg_ok (t := t) (c := 41) h.2.2.1 (by omega)
      unfold sg at hsg ⊢
      by_cases h41 : tb t (sk t i) = 41
      · rw [if_pos ⟨by omega, h41⟩] at k
        rw [if_pos h41] at hsg ⊢
        exact fun I' f3 p3 => ⟨_, rfl, br1 (k I' (f0.trans f3.rf) (h.mv f3 p3 (Nat.le_of_lt hsg.1) hsg.2))⟩
      · rw [if_neg h41]
        exact fun I' f3 p3 _ => ⟨_, rfl, br0 (go I' (sk t i) (h.mv f3 p3 (sk_le t i) (sk_L h.2.2.1)) (f0.trans f3.rf) (sk_sk t i) (fun h => h41 h.2))⟩
theorem k_mat (hsh : qSh g) (hE : kEx t g 53 x (e + 1) E) (hG : gdE t 3 E) (h : kRd t I i a ops) (k : kRes t g I J ops Q (match E i a with
    | .inl f => .inl f
    | .inr (i1, a1, n1) => hL t E 5 1 i1 a1 n1)) : qC (d + (e + 2)) 61 [.ref 11, .int (nI x)] g I J Q := by
  refine w61 hsh (hE d i a ops I J _ h ?_)
  cases hr : E i a with
  | inl f => rw [hr] at k; exact fun I' f2 p2 => ⟨_, rfl, br0 (k I' f2 p2)⟩
  | inr q =>
    obtain ⟨i1, a1, n1⟩ := q
    rw [hr] at k
    dsimp only at k
    exact fun I' f2 h2 => ⟨_, rfl, br1 (k_mat_l hsh hE hG 5 1 i1 a1 n1 I' (by omega) (by omega) h2 f2 k)⟩
theorem k_op54 (hsh : qSh g) {S : Nat → Nat → Rs} (hS : kEx t g 55 x e S) (hG : gdE t 3 S) {I0 : qI} : ∀ (f c i a : Nat) (acc : List (Nat × Nat)) (I : qI) (w3 : Value), c + f = 24 → kRd t I i a (ops ++ acc) → kRF I0 I → kRes t g I0 J ops Q (opL t S 42 5 47 6 f i a acc) → qev (d + e + 1) 54 (12, [.ref 11, .int (nI x), .int (nI c), w3], [], g, I, J) Q
  | 0, c, i, a, acc, I, w3, hc, h, f0, k => w54_12 hsh (brT (by rw [nI_leI (by omega) (by omega)]; omega) (k I f0 h.2.1))
  | f + 1, c, i, a, acc, I, w3, hc, h, f0, k => by
    have hb := h.1.2.2.2 (sk t i)
    have q1 := sk_le t i
    refine w54_12 hsh (brN (by rw [nI_leI (by omega) (by omega)]; omega) (k_nextR hsh h (fun I1 f1 h1 => ⟨_, rfl, ?_⟩)))
    unfold opL at k
    have fin : tb t (sk t i) = 42 ∨ tb t (sk t i) = 47 → qev (d + e + 1) 54 (37, [.ref 11, .int (nI x), .int (nI c), .int (nI (tb t (sk t i)))], [], g, I1, J) Q := fun hcc => by
      rw [if_pos hcc] at k
      have hlt := tb_lt (t := t) (i := sk t i) (by omega)
      have h1' := h1.step hlt
      have f1' : kRF I0 (qw I1 11 2 (I1 11 2 + nI 1)) := f0.trans (f1.trans kNF.w2).rf
      have hg3 := hG (sk t i + 1) a h1'.2.2.1 h1'.2.2.2.2.1
      have h6 := h.2.2.2.2.2.2.1
      refine w54_37 hsh (hS d _ _ _ _ _ _ h1' ?_)
      cases hr3 : S (sk t i + 1) a with
      | inl f => rw [hr3] at k; exact fun I2 f2 p2 => ⟨_, rfl, br0 (k I2 (f1'.trans f2) p2)⟩
      | inr q =>
        obtain ⟨i3, a3, n3⟩ := q
        rw [hr3] at k hg3
        dsimp only at k
        have hl : n3.length + (sk t i + 1) ≤ i3 := hg3.2.2.2.2.1
        refine fun I2 f2 h2 => ⟨_, rfl, br1 ?_⟩
        rw [nI_eq (by omega) (by omega)]
        have nx : ∀ w, w = (if tb t (sk t i) = 42 then 5 else 6) → ∀ K : Int32, K = nI (kop w) → qC (d + e) 33 [.ref 7, .int K, .int (nI 0)] g I2 J (fun v _ I3 _ => ∃ r3, v = some (.int r3) ∧ ((r3 = 0 → Q (some (.int (nI 0))) g I3 J) ∧ (¬ r3 = 0 → qev (d + e + 1) 54 (12, [.ref 11, .int (nI x), .int (nI c + (nI 1)), .int (nI (tb t (sk t i)))], [], g, I3, J) Q))) := fun w hw K hK => by
          refine k_add hsh h2 (by simp only [List.length_append] at h6 ⊢; omega) (o := (w, 0)) hK rfl (fun I3 h3 f3 => ⟨_, rfl, br1 ?_⟩)
          rw [nI_add]
          refine k_op54 hsh hS hG f (c + 1) i3 a3 (acc ++ n3 ++ [(w, 0)]) I3 _ (by omega) ?_ ((f1'.trans f2).trans f3) (by rw [hw]; exact k)
          simp only [List.append_assoc] at h3 ⊢
          exact h3
        by_cases hc1 : tb t (sk t i) = 42
        · exact brT hc1 (nx 5 (by rw [if_pos hc1]) _ rfl)
        · exact brN hc1 (nx 6 (by rw [if_neg hc1]) _ rfl)
    rw [nI_eq (by omega) (by omega), nI_eq (by omega) (by omega)]
    by_cases e1 : tb t (sk t i) = 42
    · exact brT e1 (fin (Or.inl e1))
    · refine brN e1 ?_
      by_cases e2 : tb t (sk t i) = 47
      · exact brT e2 (fin (Or.inr e2))
      · rw [if_neg (by omega)] at k
        exact brN e2 (k I1 (f0.trans f1.rf) h1)
theorem k_54 (hsh : qSh g) (hS : kEx t g 55 x e (poF t E op)) (hG : gdE t 3 (poF t E op)) : kEx t g 54 x (e + 1) (teF t E op) := by
  intro d i a ops I J Q h k
  unfold teF at k
  refine w54 hsh (hS d i a ops I J _ h ?_)
  cases hr : poF t E op i a with
  | inl f => rw [hr] at k; exact fun I' f2 p2 => ⟨_, rfl, br0 (k I' f2 p2)⟩
  | inr q =>
    obtain ⟨i1, a1, n1⟩ := q
    rw [hr] at k
    dsimp only at k
    exact fun I' f2 h2 => ⟨_, rfl, br1 (k_op54 hsh hS hG 24 0 i1 a1 n1 I' _ rfl h2 f2 k)⟩
theorem k_op53 (hsh : qSh g) {S : Nat → Nat → Rs} (hS : kEx t g 54 x e S) (hG : gdE t 3 S) {I0 : qI} : ∀ (f c i a : Nat) (acc : List (Nat × Nat)) (I : qI) (w3 : Value), c + f = 24 → kRd t I i a (ops ++ acc) → kRF I0 I → kRes t g I0 J ops Q (opL t S 43 3 45 4 f i a acc) → qev (d + e + 1) 53 (12, [.ref 11, .int (nI x), .int (nI c), w3], [], g, I, J) Q
  | 0, c, i, a, acc, I, w3, hc, h, f0, k => w53_12 hsh (brT (by rw [nI_leI (by omega) (by omega)]; omega) (k I f0 h.2.1))
  | f + 1, c, i, a, acc, I, w3, hc, h, f0, k => by
    have hb := h.1.2.2.2 (sk t i)
    have q1 := sk_le t i
    refine w53_12 hsh (brN (by rw [nI_leI (by omega) (by omega)]; omega) (k_nextR hsh h (fun I1 f1 h1 => ⟨_, rfl, ?_⟩)))
    unfold opL at k
    have fin : tb t (sk t i) = 43 ∨ tb t (sk t i) = 45 → qev (d + e + 1) 53 (37, [.ref 11, .int (nI x), .int (nI c), .int (nI (tb t (sk t i)))], [], g, I1, J) Q := fun hcc => by
      rw [if_pos hcc] at k
      have hlt := tb_lt (t := t) (i := sk t i) (by omega)
      have h1' := h1.step hlt
      have f1' : kRF I0 (qw I1 11 2 (I1 11 2 + nI 1)) := f0.trans (f1.trans kNF.w2).rf
      have hg3 := hG (sk t i + 1) a h1'.2.2.1 h1'.2.2.2.2.1
      have h6 := h.2.2.2.2.2.2.1
      refine w53_37 hsh (hS d _ _ _ _ _ _ h1' ?_)
      cases hr3 : S (sk t i + 1) a with
      | inl f => rw [hr3] at k; exact fun I2 f2 p2 => ⟨_, rfl, br0 (k I2 (f1'.trans f2) p2)⟩
      | inr q =>
        obtain ⟨i3, a3, n3⟩ := q
        rw [hr3] at k hg3
        dsimp only at k
        have hl : n3.length + (sk t i + 1) ≤ i3 := hg3.2.2.2.2.1
        refine fun I2 f2 h2 => ⟨_, rfl, br1 ?_⟩
        rw [nI_eq (by omega) (by omega)]
        have nx : ∀ w, w = (if tb t (sk t i) = 43 then 3 else 4) → ∀ K : Int32, K = nI (kop w) → qC (d + e) 33 [.ref 7, .int K, .int (nI 0)] g I2 J (fun v _ I3 _ => ∃ r3, v = some (.int r3) ∧ ((r3 = 0 → Q (some (.int (nI 0))) g I3 J) ∧ (¬ r3 = 0 → qev (d + e + 1) 53 (12, [.ref 11, .int (nI x), .int (nI c + (nI 1)), .int (nI (tb t (sk t i)))], [], g, I3, J) Q))) := fun w hw K hK => by
          refine k_add hsh h2 (by simp only [List.length_append] at h6 ⊢; omega) (o := (w, 0)) hK rfl (fun I3 h3 f3 => ⟨_, rfl, br1 ?_⟩)
          rw [nI_add]
          refine k_op53 hsh hS hG f (c + 1) i3 a3 (acc ++ n3 ++ [(w, 0)]) I3 _ (by omega) ?_ ((f1'.trans f2).trans f3) (by rw [hw]; exact k)
          simp only [List.append_assoc] at h3 ⊢
          exact h3
        by_cases hc1 : tb t (sk t i) = 43
        · exact brT hc1 (nx 3 (by rw [if_pos hc1]) _ rfl)
        · exact brN hc1 (nx 4 (by rw [if_neg hc1]) _ rfl)
    rw [nI_eq (by omega) (by omega), nI_eq (by omega) (by omega)]
    by_cases e1 : tb t (sk t i) = 43
    · exact brT e1 (fin (Or.inl e1))
    · refine brN e1 ?_
      by_cases e2 : tb t (sk t i) = 45
      · exact brT e2 (fin (Or.inr e2))
      · rw [if_neg (by omega)] at k
        exact brN e2 (k I1 (f0.trans f1.rf) h1)
theorem k_53 (hsh : qSh g) (hS : kEx t g 54 x e (teF t E op)) (hG : gdE t 3 (teF t E op)) : kEx t g 53 x (e + 1) (exF t E op) := by
  intro d i a ops I J Q h k
  unfold exF at k
  refine w53 hsh (hS d i a ops I J _ h ?_)
  cases hr : teF t E op i a with
  | inl f => rw [hr] at k; exact fun I' f2 p2 => ⟨_, rfl, br0 (k I' f2 p2)⟩
  | inr q =>
    obtain ⟨i1, a1, n1⟩ := q
    rw [hr] at k
    dsimp only at k
    exact fun I' f2 h2 => ⟨_, rfl, br1 (k_op53 hsh hS hG 24 0 i1 a1 n1 I' _ rfl h2 f2 k)⟩
end KEXPR
