/-! the class reads: signs, numbers, codes -/
def kTp (t : List Nat) (I : qI) : Prop := I 5 1 = nI t.length ∧ t.length ≤ 320 ∧ (∀ j, j < t.length → I 6 j = nI (tb t j)) ∧ ∀ j, tb t j < 256
def kNF (I I' : qI) : Prop := (∀ b, b ≠ 11 → I' b = I b) ∧ ∀ f, f ≠ 2 → f ≠ 4 → I' 11 f = I 11 f
def kRF (I I' : qI) : Prop := (∀ b, b ≠ 11 → b ≠ 7 → b ≠ 10 → I' b = I b) ∧ (∀ f, f ≠ 2 → f ≠ 3 → f ≠ 4 → I' 11 f = I 11 f) ∧ ∀ f, f ≠ 4 → I' 7 f = I 7 f
def kRd (t : List Nat) (I : qI) (i a : Nat) (ops : List (Nat × Nat)) : Prop := kTp t I ∧ I 11 2 = nI i ∧ i ≤ t.length ∧ I 11 3 = nI a ∧ a ≤ 24 ∧ I 7 4 = nI ops.length ∧ ops.length ≤ i ∧ ∀ j o, ops[j]? = some o → I 10 j = nI (enc o)
theorem kNF.refl (I : qI) : kNF I I := ⟨fun _ _ => rfl, fun _ _ _ => rfl⟩
theorem kNF.trans {I I1 I2 : qI} (h : kNF I I1) (h2 : kNF I1 I2) : kNF I I2 := ⟨fun b hb => by rw [h2.1 b hb, h.1 b hb], fun f f1 f2 => by rw [h2.2 f f1 f2, h.2 f f1 f2]⟩
theorem kNF.w2 {I : qI} {v : Int32} : kNF I (qw I 11 2 v) := ⟨fun b hb => zu_a hb, fun f f1 _ => zu_k f1⟩
theorem kNF.w4 {I : qI} {v : Int32} : kNF I (qw I 11 4 v) := ⟨fun b hb => zu_a hb, fun f _ f1 => zu_k f1⟩
theorem kNF.rf {I I' : qI} (h : kNF I I') : kRF I I' := ⟨fun b hb _ _ => h.1 b hb, fun f f1 _ f3 => h.2 f f1 f3, fun f _ => by rw [h.1 7 (by omega)]⟩
theorem kRF.refl (I : qI) : kRF I I := (kNF.refl I).rf
theorem kRF.trans {I I1 I2 : qI} (h : kRF I I1) (h2 : kRF I1 I2) : kRF I I2 := ⟨fun b b1 b2 b3 => by rw [h2.1 b b1 b2 b3, h.1 b b1 b2 b3], fun f f1 f2 f3 => by rw [h2.2.1 f f1 f2 f3, h.2.1 f f1 f2 f3], fun f f1 => by rw [h2.2.2 f f1, h.2.2 f f1]⟩
theorem kTp.keep {t : List Nat} {I I' : qI} (h : kTp t I) (h5 : I' 5 = I 5) (h6 : I' 6 = I 6) : kTp t I' := ⟨by rw [h5]; exact h.1, h.2.1, fun j hj => by rw [h6]; exact h.2.2.1 j hj, h.2.2.2⟩
theorem kTp.nf {t : List Nat} {I I' : qI} (h : kTp t I) (f : kNF I I') : kTp t I' := h.keep (f.1 5 (by omega)) (f.1 6 (by omega))
theorem kTp.rf {t : List Nat} {I I' : qI} (h : kTp t I) (f : kRF I I') : kTp t I' := h.keep (f.1 5 (by omega) (by omega) (by omega)) (f.1 6 (by omega) (by omega) (by omega))
theorem kRd.mv {t : List Nat} {I I' : qI} {i a j : Nat} {ops : List (Nat × Nat)} (h : kRd t I i a ops) (f : kNF I I') (hp : I' 11 2 = nI j) (h1 : i ≤ j) (h2 : j ≤ t.length) : kRd t I' j a ops := by
  obtain ⟨hT, p1, p2, p3, p4, p5, p6, p7⟩ := h
  exact ⟨hT.nf f, hp, h2, by rw [f.2 3 (by omega) (by omega)]; exact p3, p4, by rw [f.1 7 (by omega)]; exact p5, by omega, fun j o ho => by rw [f.1 10 (by omega)]; exact p7 j o ho⟩
theorem kRd.a1 {t : List Nat} {I : qI} {i a : Nat} {ops : List (Nat × Nat)} (h : kRd t I i a ops) (h1 : a < 24) : kRd t (qw I 11 3 (I 11 3 + nI 1)) i (a + 1) ops := by
  obtain ⟨hT, p1, p2, p3, p4, p5, p6, p7⟩ := h
  exact ⟨hT.keep (zu_a (by omega)) (zu_a (by omega)), by rw [zu_k (by omega)]; exact p1, p2, by rw [zu_s, p3, nI_add], by omega, by rw [zu_a (by omega)]; exact p5, p6, fun j o ho => by rw [zu_a (by omega)]; exact p7 j o ho⟩
theorem kRF.w3 {I : qI} {v : Int32} : kRF I (qw I 11 3 v) := ⟨fun b hb _ _ => zu_a hb, fun f _ f1 _ => zu_k f1, fun f _ => by rw [zu_a (by omega)]⟩
theorem br0 {A B : Prop} (a : A) : (nI 0 = 0 → A) ∧ (¬ nI 0 = 0 → B) := ⟨fun _ => a, fun h => absurd nI_0 h⟩
theorem br1 {A B : Prop} (b : B) : (nI 1 = 0 → A) ∧ (¬ nI 1 = 0 → B) := ⟨fun h => absurd h (by decide +kernel), fun _ => b⟩
theorem brT {c A B : Prop} (h : c) (a : A) : (c → A) ∧ (¬ c → B) := ⟨fun _ => a, fun n => absurd h n⟩
theorem brN {c A B : Prop} (h : ¬ c) (b : B) : (c → A) ∧ (¬ c → B) := ⟨fun n => absurd n h, fun _ => b⟩
section KREAD
variable {d : Nat} {g : qG} {I : qI} {J : qJ} {Q : qQ} {i a : Nat} {t : List Nat} {ops : List (Nat × Nat)}
theorem k_next_l (hsh : qSh g) : ∀ (f i : Nat) (I : qI), i + f = t.length → kTp t I → I 11 2 = nI i → (∀ I', kNF I I' → I' 11 2 = nI (skf t f i) → Q (some (.int (nI (tb t (skf t f i))))) g I' J) → qC d 67 [.ref 11] g I J Q
  | 0, i, I, hf, hT, hp, k => by
    have := hT.2.1
    have e : I 5 1 ≤ I 11 2 := by rw [hT.1, hp, nI_leI (by omega) (by omega)]; omega
    refine w67 hsh (brT e (brT e ?_))
    have h := k I (kNF.refl I) hp
    unfold skf at h
    rw [tb_ge (by omega)] at h
    exact h
  | f + 1, i, I, hf, hT, hp, k => by
    have := hT.2.1
    have e : ¬ I 5 1 ≤ I 11 2 := by rw [hT.1, hp, nI_leI (by omega) (by omega)]; omega
    have hb := hT.2.2.2 i
    unfold skf at k
    refine w67 hsh (brN e ⟨i, hp, by omega, ?_⟩)
    rw [hT.2.2.1 i (by omega)]
    by_cases h32 : tb t i = 32
    · rw [if_pos h32] at k
      rw [h32]
      refine brT rfl ?_
      exact k_next_l hsh f (i + 1) _ (by omega) (hT.nf kNF.w2) (by rw [zu_s, hp, nI_add]) (fun I' h1 h2 => k I' (kNF.w2.trans h1) h2)
    · rw [if_neg h32] at k
      refine brN (fun h => h32 ((nI_eq (by omega) (by omega)).mp h)) (brN e ⟨i, hp, by omega, ?_⟩)
      rw [hT.2.2.1 i (by omega)]
      exact k I (kNF.refl I) hp
theorem k_next (hsh : qSh g) (hT : kTp t I) (hp : I 11 2 = nI i) (hi : i ≤ t.length) (k : ∀ I', kNF I I' → I' 11 2 = nI (sk t i) → Q (some (.int (nI (tb t (sk t i))))) g I' J) : qC d 67 [.ref 11] g I J Q := k_next_l hsh (t.length - i) i I (by omega) hT hp k
theorem k_sign (hsh : qSh g) (hT : kTp t I) (hp : I 11 2 = nI i) (hi : i ≤ t.length) {c : Nat} (hc : c < 256) (k : match sg t c i with | .inl f => ∀ I', kNF I I' → I' 11 2 = nI f → f = sk t i → Q (some (.int (nI 0))) g I' J | .inr j => ∀ I', kNF I I' → I' 11 2 = nI j → Q (some (.int (nI 1))) g I' J) : qC (d + 1) 64 [.ref 11, .int (nI c)] g I J Q := by
  have hb := hT.2.2.2 (sk t i)
  refine w64 hsh (k_next hsh hT hp hi (fun I1 f1 p1 => ⟨_, rfl, ?_⟩))
  unfold sg at k
  by_cases h : tb t (sk t i) = c
  · rw [if_pos h] at k
    rw [h]
    exact brT rfl (k _ (f1.trans kNF.w2) (by rw [zu_s, p1, nI_add]))
  · rw [if_neg h] at k
    exact brN (fun e => h ((nI_eq (by omega) (by omega)).mp e)) (k _ f1 p1 rfl)
theorem k_dig (hsh : qSh g) (hT : kTp t I) {j : Nat} (hj : j ≤ t.length) (k1 : 48 ≤ tb t j ∧ tb t j ≤ 57 → Q (some (.int (nI 1))) g I J) (k0 : ¬ (48 ≤ tb t j ∧ tb t j ≤ 57) → Q (some (.int (nI 0))) g I J) : qC d 66 [.ref 11, .int (nI j)] g I J Q := by
  have hL := hT.2.1
  have hb := hT.2.2.2 j
  refine w66 hsh ⟨fun h => absurd h (nI_pos (by omega)), fun _ => ⟨fun h => ?_, fun h => ⟨j, rfl, ?_, ?_⟩⟩⟩
  · rw [hT.1, nI_leI (by omega) (by omega)] at h
    exact k0 (by rw [tb_ge h]; omega)
  · rw [hT.1, nI_leI (by omega) (by omega)] at h; omega
  · rw [hT.1, nI_leI (by omega) (by omega)] at h
    rw [hT.2.2.1 j (by omega), nI_ltI (by omega) (by omega)]
    refine ⟨fun h2 => k0 (by omega), fun h2 => ⟨j, rfl, by omega, ?_⟩⟩
    rw [hT.2.2.1 j (by omega), nI_ltI (by omega) (by omega)]
    exact ⟨fun h3 => k0 (by omega), fun h3 => k1 (by omega)⟩
theorem k_num_l (hsh : qSh g) {lo hi : Int32} : ∀ (f c j v : Nat) (I : qI), c + f = 3 → kTp t I → I 11 2 = nI j → j ≤ t.length → I 11 4 = nI v →
    (∀ I', kNF I I' → I' 11 2 = nI (nuL t f j v).1 → I' 11 4 = nI (nuL t f j v).2 → qev (d + 1) 65 (71, [.ref 11, .int lo, .int hi, .int (nI (c + ((nuL t f j v).1 - j)))], [], g, I', J) Q) →
    qev (d + 1) 65 (12, [.ref 11, .int lo, .int hi, .int (nI c)], [], g, I, J) Q
  | 0, c, j, v, I, hc, hT, hp, hj, hv, k => by
    refine w65_12 hsh (brT (by rw [nI_leI (by omega) (by omega)]; omega) ?_)
    have h := k I (kNF.refl I) hp hv
    unfold nuL at h
    rw [show c + ((j, v).1 - j) = c by dsimp only; omega] at h
    exact h
  | f + 1, c, j, v, I, hc, hT, hp, hj, hv, k => by
    have hL := hT.2.1
    have hb := hT.2.2.2 j
    refine w65_12 hsh (brN (by rw [nI_leI (by omega) (by omega)]; omega) ?_)
    rw [hp]
    unfold nuL at k
    refine k_dig hsh hT hj (fun h => ⟨_, rfl, ?_⟩) (fun h => ⟨_, rfl, ?_⟩)
    · rw [if_pos h] at k
      have hjl := tb_lt (t := t) (i := j) (by omega)
      refine br1 ⟨j, rfl, by omega, ?_⟩
      rw [nI_add]
      have e : I 11 4 * nI 10 + I 6 j - nI 48 = nI (10 * v + (tb t j - 48)) := by
        rw [hv, hT.2.2.1 j hjl, pk_mul, nI_add, pk_sub (by omega)]
        congr 1; omega
      rw [e]
      have hm := (nuL_spec t f (j + 1) (10 * v + (tb t j - 48))).1
      refine k_num_l hsh f (c + 1) (j + 1) (10 * v + (tb t j - 48)) _ (by omega) (hT.nf (kNF.w4.trans kNF.w2)) (by rw [zu_s, zu_k (by omega), hp, nI_add]) (by omega) (by rw [zu_k (by omega), zu_s]) (fun I' h1 h2 h3 => ?_)
      have h := k I' ((kNF.w4.trans kNF.w2).trans h1) h2 h3
      rw [show c + ((nuL t f (j + 1) (10 * v + (tb t j - 48))).1 - j) = c + 1 + ((nuL t f (j + 1) (10 * v + (tb t j - 48))).1 - (j + 1)) by omega] at h
      exact h
    · rw [if_neg h] at k
      refine br0 ?_
      have h := k I (kNF.refl I) hp hv
      rw [show c + ((j, v).1 - j) = c by dsimp only; omega] at h
      exact h
theorem k_num (hsh : qSh g) (hT : kTp t I) (hp : I 11 2 = nI i) (hil : i ≤ t.length) {lo hi : Nat} (hh : lo < 1000 ∧ hi < 1000) (k : match nu t lo hi false i with | .inl f => ∀ I', kNF I I' → I' 11 2 = nI f → Q (some (.int (nI 0))) g I' J | .inr q => ∀ I', kNF I I' → I' 11 2 = nI q.1 → I' 11 4 = nI q.2 → Q (some (.int (nI 1))) g I' J) : qC (d + 1) 65 [.ref 11, .int (nI lo), .int (nI hi)] g I J Q := by
  have hL := sk_L hil
  have ht := hT.2.1
  obtain ⟨a1, a2, a3, a4⟩ := nuL_spec t 3 (sk t i) 0
  have a3 := a3 hL
  refine w65 hsh (k_next hsh hT hp hil (fun I1 f1 p1 => ⟨_, rfl, ?_⟩))
  refine k_num_l hsh 3 0 (sk t i) 0 _ (by omega) ((hT.nf f1).nf kNF.w4) (by rw [zu_k (by omega)]; exact p1) hL zu_s (fun I2 f2 p2 p3 => ?_)
  have f2 := (f1.trans kNF.w4).trans f2
  unfold nu at k
  have hT2 := hT.nf f2
  refine w65_71 hsh ?_
  generalize nuL t 3 (sk t i) 0 = q at *
  obtain ⟨j, v⟩ := q
  dsimp only at k a1 a2 a3 a4 p2 p3 ⊢
  by_cases c1 : j = sk t i
  · rw [if_pos c1] at k
    rw [show 0 + (j - sk t i) = 0 by omega]
    exact br0 (k I2 f2 (by rw [p2, c1]))
  · rw [if_neg c1] at k
    refine brN (fun h => c1 ?_) ?_
    · rw [← nI_0, nI_eq (by omega) (by omega)] at h; omega
    · rw [p2, p3]
      refine k_dig hsh hT2 a3 (fun h => ⟨_, rfl, br1 ?_⟩) (fun h => ⟨_, rfl, br0 ?_⟩)
      · rw [if_pos h] at k
        exact k I2 f2 p2
      · rw [if_neg h] at k
        rw [nI_ltI (by omega) (by omega), nI_leI (by omega) (by omega), pk_sub (by omega)]
        by_cases c3 : v < lo
        · rw [if_pos (Or.inl c3)] at k
          exact brT c3 (k _ (f2.trans kNF.w2) zu_s)
        · refine brN c3 ?_
          by_cases c4 : v ≤ hi
          · rw [if_neg (by rintro (h | h | h); exact c3 h; omega; exact absurd h.1 (by decide))] at k
            exact brT c4 (k I2 f2 p2 p3)
          · rw [if_pos (Or.inr (Or.inl (by omega)))] at k
            exact brN c4 (k _ (f2.trans kNF.w2) zu_s)
theorem k_add (hsh : qSh g) (h : kRd t I i a ops) (hl : ops.length + 1 ≤ i) {o : Nat × Nat} {x y : Int32} (hx : x = nI (kop o.1)) (hy : y = nI o.2) (k : ∀ I', kRd t I' i a (ops ++ [o]) → kRF I I' → Q (some (.int (nI 1))) g I' J) : qC d 33 [.ref 7, .int x, .int y] g I J Q := by
  subst hx hy
  obtain ⟨hT, p1, p2, p3, p4, p5, p6, p7⟩ := h
  have ht := hT.2.1
  refine w33 hsh.draft (brT (by rw [p5, nI_ltI (by omega) (by omega)]; omega) ⟨ops.length, p5, by omega, ?_⟩)
  rw [pk_mul, nI_add]
  refine k _ ⟨hT.keep ?_ ?_, ?_, p2, ?_, p4, ?_, ?_, fun j q hj => ?_⟩ ⟨fun b b1 b2 b3 => ?_, fun f f1 f2 f3 => ?_, fun f f1 => ?_⟩
  · rw [zu_a (by omega), zu_a (by omega)]
  · rw [zu_a (by omega), zu_a (by omega)]
  · rw [zu_a (by omega), zu_a (by omega)]; exact p1
  · rw [zu_a (by omega), zu_a (by omega)]; exact p3
  · rw [zu_s, zu_a (by omega), p5, nI_add, List.length_append]; rfl
  · rw [List.length_append]; exact hl
  · rw [zu_a (by omega)]
    by_cases hj2 : j < ops.length
    · rw [List.getElem?_append_left hj2] at hj
      rw [zu_k (by omega)]
      exact p7 j q hj
    · rw [List.getElem?_append_right (by omega)] at hj
      have hz : j - ops.length = 0 := by have := getE_lt hj; simpa using this
      rw [hz] at hj
      cases hj
      rw [show j = ops.length by omega, zu_s]
      rfl
  · rw [zu_a b2, zu_a b3]
  · rw [zu_a (by omega), zu_a (by omega)]
  · rw [zu_k f1, zu_a (by omega)]
end KREAD
