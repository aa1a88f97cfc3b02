/-! the reference reads expressions -/
def rRd (t : List Nat) (I : qI) (i a x S : Nat) (ops : List (Nat × Nat)) : Prop := rTp t I ∧ I 105 3 = nI i ∧ i ≤ t.length ∧ I 105 4 = -1 ∧ I 105 16 = nI a ∧ a ≤ 24 ∧ I 105 15 = nI x ∧ I 105 14 = nI S ∧ S < 41 ∧ rOps I S ops
def rFl (I : qI) (f S P : Nat) : Prop := I 105 4 = nI f ∧ f ≤ 320 ∧ I 105 14 = nI S ∧ S < 41 ∧ ∃ n, I 108 S = nI n ∧ n + P ≤ 130
def rQF (S : Nat) (I I' : qI) : Prop := (∀ b, b ≠ 105 → b ≠ 108 → b ≠ 109 → I' b = I b) ∧ (∀ f, f ≠ 3 → f ≠ 4 → f ≠ 15 → f ≠ 16 → I' 105 f = I 105 f) ∧ (∀ j, j ≠ S → I' 108 j = I 108 j) ∧ ∀ j, j < 280 * S ∨ 280 * (S + 1) ≤ j → I' 109 j = I 109 j
theorem rQF.refl (S : Nat) (I : qI) : rQF S I I := ⟨fun _ _ _ _ => rfl, fun _ _ _ _ _ => rfl, fun _ _ => rfl, fun _ _ => rfl⟩
theorem rQF.trans {S : Nat} {I I1 I2 : qI} (h : rQF S I I1) (h2 : rQF S I1 I2) : rQF S I I2 := ⟨fun b b1 b2 b3 => by rw [h2.1 b b1 b2 b3, h.1 b b1 b2 b3], fun f f1 f2 f3 f4 => by rw [h2.2.1 f f1 f2 f3 f4, h.2.1 f f1 f2 f3 f4], fun j hj => by rw [h2.2.2.1 j hj, h.2.2.1 j hj], fun j hj => by rw [h2.2.2.2 j hj, h.2.2.2 j hj]⟩
theorem rFF.qf {S : Nat} {I I' : qI} (h : rFF I I') : rQF S I I' := ⟨fun b b1 _ _ => h.1 b b1, fun f f1 f2 _ _ => h.2 f f1 f2, fun j _ => by rw [h.1 108 (by omega)], fun j _ => by rw [h.1 109 (by omega)]⟩
theorem rNF.qf {S : Nat} {I I' : qI} (h : rNF I I') : rQF S I I' := h.ff.qf
theorem rQF.w5 {S k : Nat} (hk : k = 15 ∨ k = 16) {I : qI} {v : Int32} : rQF S I (qw I 105 k v) := ⟨fun b b1 _ _ => zu_a b1, fun f _ _ f3 f4 => zu_k (by omega), fun j _ => by rw [zu_a (by omega)], fun j _ => by rw [zu_a (by omega)]⟩
theorem rOps.keep {I I' : qI} {S : Nat} {ops : List (Nat × Nat)} (h : rOps I S ops) (h1 : I' 108 = I 108) (h2 : I' 109 = I 109) : rOps I' S ops := ⟨by rw [h1]; exact h.1, h.2.1, fun j o ho => by rw [h2]; exact h.2.2 j o ho⟩
theorem rTp.qf {t : List Nat} {S : Nat} {I I' : qI} (h : rTp t I) (f : rQF S I I') : rTp t I' := h.keep (f.2.1 2 (by omega) (by omega) (by omega) (by omega)) (f.1 106 (by omega) (by omega) (by omega))
theorem rRd.mv {t : List Nat} {I I' : qI} {i a x S j : Nat} {ops : List (Nat × Nat)} (h : rRd t I i a x S ops) (f : rNF I I') (hp : I' 105 3 = nI j) (h2 : j ≤ t.length) : rRd t I' j a x S ops := by
  obtain ⟨hT, p1, p2, p3, p4, p5, p6, p7, p8, p9⟩ := h
  exact ⟨hT.nf f, hp, h2, by rw [f.2 4 (by omega)]; exact p3, by rw [f.2 16 (by omega)]; exact p4, p5, by rw [f.2 15 (by omega)]; exact p6, by rw [f.2 14 (by omega)]; exact p7, p8, p9.keep (f.1 108 (by omega)) (f.1 109 (by omega))⟩
theorem rRd.fl {t : List Nat} {I I' : qI} {i a x S f P : Nat} {ops : List (Nat × Nat)} (h : rRd t I i a x S ops) (hf : rFF I I') (h4 : I' 105 4 = nI f) (hl : f ≤ t.length) (hP : ops.length + P ≤ 130) : rFl I' f S P := by
  obtain ⟨hT, p1, p2, p3, p4, p5, p6, p7, p8, p9⟩ := h
  exact ⟨h4, Nat.le_trans hl hT.2.1, by rw [hf.2 14 (by omega) (by omega)]; exact p7, p8, _, by rw [hf.1 108 (by omega)]; exact p9.1, hP⟩
theorem rFl.ne {I : qI} {f S P : Nat} (h : rFl I f S P) : ¬ I 105 4 = -1 := by rw [h.1]; exact m1_ne (by have := h.2.1; omega)
def rRes (t : List Nat) (g : qG) (I : qI) (J : qJ) (ops : List (Nat × Nat)) (x S P : Nat) (Q : qQ) (r : Rs) : Prop := match r with
  | .inl f => ∀ I', rQF S I I' → rFl I' f S P → Q none g I' J
  | .inr (i', a', n) => ∀ I', rQF S I I' → rRd t I' i' a' x S (ops ++ n) → Q none g I' J
theorem rRes.fr {t : List Nat} {g : qG} {I I1 : qI} {J : qJ} {ops : List (Nat × Nat)} {x S P : Nat} {Q : qQ} {r : Rs} (k : rRes t g I J ops x S P Q r) (h : rQF S I I1) : rRes t g I1 J ops x S P Q r := by
  cases r with
  | inl f => exact fun I' h1 h2 => k I' (h.trans h1) h2
  | inr q => exact fun I' h1 h2 => k I' (h.trans h1) h2
theorem rRes.nn {t : List Nat} {g : qG} {I : qI} {J : qJ} {ops : List (Nat × Nat)} {x S P : Nat} {Q : qQ} {r : Rs} (k : rRes t g I J ops x S P Q r) : rRes t g I J ops x S P (fun v _ I' _ => v = none ∧ Q none g I' J) r := by
  cases r with
  | inl f => exact fun I' h1 h2 => ⟨rfl, k I' h1 h2⟩
  | inr q => exact fun I' h1 h2 => ⟨rfl, k I' h1 h2⟩
def rEx (t : List Nat) (g : qG) (m x S e : Nat) (E : Nat → Nat → Rs) : Prop := ∀ (d i a P : Nat) (ops : List (Nat × Nat)) (I : qI) (J : qJ) (Q : qQ), rRd t I i a x S ops → 4 * (ops.length + P) ≤ i + 8 * a → rRes t g I J ops x S P Q (E i a) → qC (d + e) m [.ref 105] g I J Q
theorem rEx.up {t : List Nat} {g : qG} {m x S e : Nat} {E : Nat → Nat → Rs} (h : rEx t g m x S e E) (k : Nat) : rEx t g m x S (e + k) E := fun d i a P ops I J Q h1 h2 h3 => by
  rw [show d + (e + k) = d + k + e by omega]
  exact h (d + k) i a P ops I J Q h1 h2 h3
section REXPR
variable {d e : Nat} {g : qG} {I : qI} {J : qJ} {Q : qQ} {i a x S P : Nat} {t : List Nat} {ops : List (Nat × Nat)} {E : Nat → Nat → Rs} {op : Bool}
theorem r_says0 (hsh : qSh g) {n : Nat} {u v : Int32} (hS : I 105 14 = nI S) (h41 : S < 41) (hn : I 108 S = nI n) (h140 : n < 140) (k : Q none g (qw (qw (qw I 109 (280 * S + 2 * n) u) 109 (280 * S + 2 * n + 1) v) 108 S (nI (n + 1))) J) : qC d 162 [.ref 105, .int u, .int v] g I J Q := by
  have e1 : nI 280 * I 105 14 + nI 2 * I 108 S = nI (280 * S + 2 * n) := by rw [hS, hn, pk_mul, pk_mul, nI_add]
  refine w162 hsh ⟨S, hS, h41, 280 * S + 2 * n, e1, by omega, 280 * S + 2 * n + 1, by rw [e1, nI_add], by omega, S, by rw [zu_a (by omega), zu_a (by omega)]; exact hS, h41, S, by rw [zu_a (by omega), zu_a (by omega)]; exact hS, h41, ?_⟩
  rw [show qw (qw I 109 (280 * S + 2 * n) u) 109 (280 * S + 2 * n + 1) v 108 S = nI n by rw [zu_a (by omega), zu_a (by omega)]; exact hn, nI_add]
  exact k
theorem r_says (hsh : qSh g) (h : rRd t I i a x S ops) (hl : ops.length < 140) {o : Nat × Nat} {u v : Int32} (hu : u = nI o.1) (hv : o.1 ≠ 1 → v = nI o.2) (k : ∀ I', rQF S I I' → rRd t I' i a x S (ops ++ [o]) → Q none g I' J) : qC d 162 [.ref 105, .int u, .int v] g I J Q := by
  obtain ⟨hT, p1, p2, p3, p4, p5, p6, p7, p8, q1, q2, q3⟩ := h
  refine r_says0 hsh p7 p8 q1 hl (k _ ⟨fun b b1 b2 b3 => ?_, fun f _ _ _ _ => ?_, fun j hj => ?_, fun j hj => ?_⟩ ⟨hT.keep ?_ ?_, ?_, p2, ?_, ?_, p5, ?_, ?_, p8, ?_, ?_, fun j q hj => ?_⟩)
  · rw [zu_a b2, zu_a b3, zu_a b3]
  · rw [zu_a (by omega), zu_a (by omega), zu_a (by omega)]
  · rw [zu_k hj, zu_a (by omega), zu_a (by omega)]
  · rw [zu_a (by omega), zu_k (by omega), zu_k (by omega)]
  · rw [zu_a (by omega), zu_a (by omega), zu_a (by omega)]
  · rw [zu_a (by omega), zu_a (by omega), zu_a (by omega)]
  · rw [zu_a (by omega), zu_a (by omega), zu_a (by omega)]; exact p1
  · rw [zu_a (by omega), zu_a (by omega), zu_a (by omega)]; exact p3
  · rw [zu_a (by omega), zu_a (by omega), zu_a (by omega)]; exact p4
  · rw [zu_a (by omega), zu_a (by omega), zu_a (by omega)]; exact p6
  · rw [zu_a (by omega), zu_a (by omega), zu_a (by omega)]; exact p7
  · rw [zu_s, List.length_append]; rfl
  · rw [List.length_append]; show ops.length + 1 ≤ 140; omega
  · rw [zu_a (by omega)]
    by_cases hj2 : j < ops.length
    · rw [List.getElem?_append_left hj2] at hj
      obtain ⟨r1, r2⟩ := q3 j q hj
      exact ⟨by rw [zu_k (by omega), zu_k (by omega)]; exact r1, fun hq => by rw [zu_k (by omega), zu_k (by omega)]; exact r2 hq⟩
    · rw [List.getElem?_append_right (by omega)] at hj
      have hz : j - ops.length = 0 := by have := getE_lt hj; simpa using this
      rw [hz] at hj
      cases hj
      rw [show j = ops.length by omega]
      exact ⟨by rw [zu_k (by omega), zu_s]; exact hu, fun hq => by rw [zu_s]; exact hv hq⟩
theorem r_saysX (hsh : qSh g) {f : Nat} (h : rFl I f S (P + 1)) {u v : Int32} (k : ∀ I', rQF S I I' → rFl I' f S P → Q none g I' J) : qC d 162 [.ref 105, .int u, .int v] g I J Q := by
  obtain ⟨h1, h2, h3, h4, n, h5, h6⟩ := h
  refine r_says0 hsh h3 h4 h5 (by omega) (k _ ⟨fun b b1 b2 b3 => ?_, fun f _ _ _ _ => ?_, fun j hj => ?_, fun j hj => ?_⟩ ⟨?_, h2, ?_, h4, n + 1, zu_s, by omega⟩)
  · rw [zu_a b2, zu_a b3, zu_a b3]
  · rw [zu_a (by omega), zu_a (by omega), zu_a (by omega)]
  · rw [zu_k hj, zu_a (by omega), zu_a (by omega)]
  · rw [zu_a (by omega), zu_k (by omega), zu_k (by omega)]
  · rw [zu_a (by omega), zu_a (by omega), zu_a (by omega)]; exact h1
  · rw [zu_a (by omega), zu_a (by omega), zu_a (by omega)]; exact h3
theorem r_lookR (hsh : qSh g) (h : rRd t I i a x S ops) (k : ∀ I', rNF I I' → rRd t I' (sk t i) a x S ops → Q (some (.int (rlk t (sk t i)))) g I' J) : qC (d + 1) 154 [.ref 105] g I J Q :=
  r_look hsh h.1 h.2.1 h.2.2.1 (fun I' f p => k I' f (h.mv f p (sk_L h.2.2.1)))
theorem r_open (hsh : qSh g) (hx : x ≤ 8) (h : rRd t I i a x S ops) (hP : ops.length + P ≤ 130) (k1 : tb t (sk t i) = 40 ∧ x < 8 → ∀ I', rQF S I I' → rRd t I' (sk t i + 1) a (x + 1) S ops → Q none g I' J) (k0 : ¬ (tb t (sk t i) = 40 ∧ x < 8) → ∀ I', rQF S I I' → rFl I' (sk t i) S P → Q none g I' J) : qC (d + 2) 163 [.ref 105] g I J Q := by
  have hb := h.1.2.2.2 (sk t i)
  refine w163 hsh (brT h.2.2.2.1 (r_lookR hsh h (fun I1 f1 h1 => ⟨_, rfl, ?_⟩)))
  have e15 := h1.2.2.2.2.2.2.1
  have ff : rFl (qw I1 105 4 (I1 105 3)) (sk t i) S P := h1.fl rFF.w4 (by rw [zu_s]; exact h1.2.1) h1.2.2.1 hP
  rw [rlk_eq hb (by omega), e15, nI_eq (by omega) (by omega)]
  by_cases c1 : tb t (sk t i) = 40
  · refine brT c1 ?_
    by_cases c2 : x = 8
    · exact brT c2 (r_fails hsh h1.2.2.2.1 ⟨rfl, k0 (by omega) _ (f1.qf.trans rFF.w4.qf) ff⟩)
    · refine brN c2 (k1 ⟨c1, by omega⟩ _ (f1.qf.trans ((rQF.w5 (Or.inl rfl)).trans rNF.w3.qf)) ?_)
      obtain ⟨hT, p1, p2, p3, p4, p5, p6, p7, p8, p9⟩ := h1
      refine ⟨hT.keep (by rw [zu_k (by omega), zu_k (by omega)]) (by rw [zu_a (by omega), zu_a (by omega)]), by rw [zu_s, zu_k (by omega), p1, nI_add], tb_lt (by omega), by rw [zu_k (by omega), zu_k (by omega)]; exact p3, by rw [zu_k (by omega), zu_k (by omega)]; exact p4, p5, by rw [zu_k (by omega), zu_s, nI_add], by rw [zu_k (by omega), zu_k (by omega)]; exact p7, p8, p9.keep (by rw [zu_a (by omega), zu_a (by omega)]) (by rw [zu_a (by omega), zu_a (by omega)])⟩
  · exact brN c1 (r_fails hsh h1.2.2.2.1 ⟨rfl, k0 (fun h => c1 h.1) _ (f1.qf.trans rFF.w4.qf) ff⟩)
theorem r_openX (hsh : qSh g) (h : ¬ I 105 4 = -1) (k : Q none g I J) : qC (d + 1) 163 [.ref 105] g I J Q := w163 hsh (brN h k)
theorem r_shut (hsh : qSh g) (h : rRd t I i a (x + 1) S ops) (hP : ops.length + P ≤ 130) (k : match sg t 41 i with | .inl f => ∀ I', rQF S I I' → rFl I' f S P → Q none g I' J | .inr j => ∀ I', rQF S I I' → rRd t I' j a x S ops → Q none g I' J) : qC (d + 3) 164 [.ref 105] g I J Q := by
  refine w164 hsh (r_sgn hsh h.1 h.2.1 h.2.2.1 h.2.2.2.1 (by omega) ?_)
  have hsg := sg_ok (t := t) (c := 41) h.2.2.1 (by omega)
  cases hs : sg t 41 i with
  | inl f =>
    rw [hs] at k hsg
    refine fun I1 f1 p1 => ⟨rfl, k _ (f1.qf.trans (rQF.w5 (Or.inl rfl))) ?_⟩
    obtain ⟨h1, h2, h3, h4, n, h5, h6⟩ := h.fl f1 p1 hsg hP
    exact ⟨by rw [zu_k (by omega)]; exact h1, h2, by rw [zu_k (by omega)]; exact h3, h4, n, by rw [zu_a (by omega)]; exact h5, h6⟩
  | inr j =>
    rw [hs] at k hsg
    refine fun I1 f1 p1 => ⟨rfl, k _ (f1.qf.trans (rQF.w5 (Or.inl rfl))) ?_⟩
    obtain ⟨hT, q1, q2, q3, q4, q5, q6, q7, q8, q9⟩ := h.mv f1 p1 hsg.2
    exact ⟨hT.keep (by rw [zu_k (by omega)]) (by rw [zu_a (by omega)]), by rw [zu_k (by omega)]; exact q1, q2, by rw [zu_k (by omega)]; exact q3, by rw [zu_k (by omega)]; exact q4, q5, by rw [zu_s, q6, pk_sub (by omega)]; rfl, by rw [zu_k (by omega)]; exact q7, q8, q9.keep (by rw [zu_a (by omega)]) (by rw [zu_a (by omega)])⟩
theorem r_shutX (hsh : qSh g) {f : Nat} (h : rFl I f S P) (k : ∀ I', rQF S I I' → rFl I' f S P → Q none g I' J) : qC (d + 2) 164 [.ref 105] g I J Q := by
  refine w164 hsh (r_sgnX hsh h.ne ⟨rfl, k _ (rQF.w5 (Or.inl rfl)) ?_⟩)
  obtain ⟨h1, h2, h3, h4, n, h5, h6⟩ := h
  exact ⟨by rw [zu_k (by omega)]; exact h1, h2, by rw [zu_k (by omega)]; exact h3, h4, n, by rw [zu_a (by omega)]; exact h5, h6⟩
end REXPR
