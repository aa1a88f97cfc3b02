/-! a state in the reference -/
def rL (I : qI) (a off : Nat) (l : List LE) : Prop := I a (off + 200) = nI l.length ∧ ∀ j e, l[j]? = some e → I a (off + 201 + 3 * j) = nI e.1 ∧ I a (off + 202 + 3 * j) = nI e.2.1 ∧ I a (off + 203 + 3 * j) = nI e.2.2
def rSt (I : qI) (a off : Nat) (s : ST) : Prop := rG I a off s.1 ∧ rL I a off s.2
def bdST (s : ST) : Prop := (∀ r, r < 8 → (s.1 r).1 ≤ 24) ∧ s.2.length ≤ 60
theorem okST.bd {p M : Nat} {s : ST} (h : okST p M s) : bdST s := ⟨fun r hr => (h.1 r hr).2.1, h.2.1⟩
theorem rSt.move {I I' : qI} {a b o1 o2 : Nat} {s : ST} (h : rSt I a o1 s) (hb : bdST s) (hc : ∀ j, j < 381 → I' b (o2 + j) = I a (o1 + j)) : rSt I' b o2 s := by
  refine ⟨fun r hr => ⟨?_, fun i hi => ?_⟩, ?_, fun j e he => ?_⟩
  · rw [hc _ (by omega)]; exact (h.1 r hr).1
  · have := hb.1 r hr
    have h9 := hc (25 * r + 1 + i) (by omega)
    rw [← Nat.add_assoc, ← Nat.add_assoc, ← Nat.add_assoc, ← Nat.add_assoc] at h9
    rw [h9]; exact (h.1 r hr).2 i hi
  · rw [hc _ (by omega)]; exact h.2.1
  · have := getE_lt he
    have := hb.2
    have h8 := h.2.2 j e he
    refine ⟨?_, ?_, ?_⟩
    · have h9 := hc (201 + 3 * j) (by omega)
      rw [← Nat.add_assoc, ← Nat.add_assoc] at h9
      rw [h9]; exact h8.1
    · have h9 := hc (202 + 3 * j) (by omega)
      rw [← Nat.add_assoc, ← Nat.add_assoc] at h9
      rw [h9]; exact h8.2.1
    · have h9 := hc (203 + 3 * j) (by omega)
      rw [← Nat.add_assoc, ← Nat.add_assoc] at h9
      rw [h9]; exact h8.2.2
theorem rSt.keep {I I' : qI} {a o : Nat} {s : ST} (h : rSt I a o s) (h1 : I' a = I a) : rSt I' a o s := ⟨h.1.keep h1, by rw [h1]; exact h.2.1, fun j e he => by rw [h1]; exact h.2.2 j e he⟩
section RSTATE
variable {d : Nat} {g : qG} {I : qI} {J : qJ} {Q : qQ} {p M n m x a b : Nat} {regs : Nat → Sr} {s : ST} {l : List LE}
theorem r_cpRow_l {na nb o1 o2 : Nat} (ha : g.1 a = some (100, na)) (hb : g.1 b = some (100, nb)) (hna : o1 + 381 ≤ na ∧ na < 2 ^ 31) (hnb : o2 + 381 ≤ nb ∧ nb < 2 ^ 31) (hne : a ≠ b) (k : ∀ I', (∀ q, q ≠ b → I' q = I q) → (∀ j, j < 381 → I' b (o2 + j) = I a (o1 + j)) → (∀ j, (j < o2 ∨ o2 + 381 ≤ j) → I' b j = I b j) → Q none g I' J) : ∀ f i I', i + f = 381 → (∀ q, q ≠ b → I' q = I q) → (∀ j, j < i → I' b (o2 + j) = I a (o1 + j)) → (∀ j, (j < o2 ∨ o2 + i ≤ j) → I' b j = I b j) → qev d 177 (3, [.ref a, .int (nI o1), .ref b, .int (nI o2), .int (nI i)], [], g, I', J) Q
  | 0, i, I', hi, hf, h1, h2 => by
    refine w177_3 ha hna.2 hb hnb.2 ⟨fun _ => k I' hf (fun j hj => h1 j (by omega)) (fun j hj => h2 j (by omega)), fun h4 => ?_⟩
    rw [nI_leI (by omega) (by omega)] at h4; omega
  | f + 1, i, I', hi, hf, h1, h2 => by
    refine w177_3 ha hna.2 hb hnb.2 ⟨fun h4 => ?_, fun _ => ⟨o1 + i, nI_add _ _, by omega, o2 + i, nI_add _ _, by omega, ?_⟩⟩
    · rw [nI_leI (by omega) (by omega)] at h4; omega
    · rw [nI_add]
      refine r_cpRow_l ha hb hna hnb hne k f (i + 1) _ (by omega) (fun q hq => by rw [zu_a hq]; exact hf q hq) (fun j hj => ?_) (fun j hj => by rw [zu_k (by omega)]; exact h2 j (by omega))
      by_cases hji : j = i
      · rw [hji, zu_s, hf a hne]
      · rw [zu_k (by omega)]; exact h1 j (by omega)
theorem r_cpRow {na nb o1 o2 : Nat} (ha : g.1 a = some (100, na)) (hb : g.1 b = some (100, nb)) (hna : o1 + 381 ≤ na ∧ na < 2 ^ 31) (hnb : o2 + 381 ≤ nb ∧ nb < 2 ^ 31) (hne : a ≠ b) {u v : Int32} (hu : u = nI o1) (hv : v = nI o2) (k : ∀ I', (∀ q, q ≠ b → I' q = I q) → (∀ j, j < 381 → I' b (o2 + j) = I a (o1 + j)) → (∀ j, (j < o2 ∨ o2 + 381 ≤ j) → I' b j = I b j) → Q none g I' J) : qC d 177 [.ref a, .int u, .ref b, .int v] g I J Q := by
  subst hu hv
  exact w177 ha hna.2 hb hnb.2 (r_cpRow_l ha hb hna hnb hne k 381 0 I (by omega) (fun _ _ => rfl) (fun j hj => absurd hj (Nat.not_lt_zero j)) (fun _ _ => rfl))
/-- a note, behind room for it -/
theorem r_note_e {na : Nat} (ha : g.1 a = some (100, na)) (hna : 381 ≤ na ∧ na < 2 ^ 31) (hG : rG I a 0 regs) {l : List LE} (hL : rL I a 0 l) (hl : l.length < 60) {r so : Nat} (hr : r < 8) {w4 : Value} (hb : ∀ r, r < 8 → (regs r).1 ≤ 24) (k : ∀ I', rSt I' a 0 (regs, l ++ [(so, r, (regs r).1)]) → (∀ q, q ≠ a → I' q = I q) → Q none g I' J) : qev d 212 (54, [.ref 105, .ref a, .int (nI so), .int (nI r), w4], [], g, I, J) Q := by
  have h200 : I a 200 = nI l.length := by have := hL.1; rw [Nat.zero_add] at this; exact this
  have hg := (hG r hr).1
  rw [Nat.zero_add] at hg
  refine w212_54 ha hna.2 ⟨200, rfl, by omega, 201 + 3 * l.length, by rw [h200, pk_mul, nI_add], by omega, 201 + 3 * l.length + 1, by rw [h200, pk_mul, nI_add, nI_add], by omega, 25 * r, pk_mul 25 r, by omega, 201 + 3 * l.length + 2, by rw [h200, pk_mul, nI_add, nI_add], by omega, 200, rfl, by omega, 200, rfl, by omega, ?_⟩
  have e1 : qw (qw I a (201 + 3 * l.length) (nI so)) a (201 + 3 * l.length + 1) (nI r) a (25 * r) = nI (regs r).1 := by rw [zu_k (by omega), zu_k (by omega)]; exact hg
  rw [e1]
  have e2 : qw (qw (qw I a (201 + 3 * l.length) (nI so)) a (201 + 3 * l.length + 1) (nI r)) a (201 + 3 * l.length + 2) (nI (regs r).1) a 200 = nI l.length := by rw [zu_k (by omega), zu_k (by omega), zu_k (by omega)]; exact h200
  rw [e2, nI_add]
  have lo : ∀ j, j < 201 + 3 * l.length → j ≠ 200 → qw (qw (qw (qw I a (201 + 3 * l.length) (nI so)) a (201 + 3 * l.length + 1) (nI r)) a (201 + 3 * l.length + 2) (nI (regs r).1)) a 200 (nI (l.length + 1)) a j = I a j := fun j h1 h2 => by rw [zu_k h2, zu_k (by omega), zu_k (by omega), zu_k (by omega)]
  refine k _ ⟨fun q hq => ?_, ?_, fun j e he => ?_⟩ (fun q hq => by rw [zu_a hq, zu_a hq, zu_a hq, zu_a hq])
  · have hgq := hG q hq
    have := hb q hq
    refine ⟨by rw [lo _ (by omega) (by omega)]; exact hgq.1, fun i hi => ?_⟩
    have hi2 : i < (regs q).1 := hi
    rw [lo _ (by omega) (by omega)]; exact hgq.2 i hi
  · rw [Nat.zero_add, zu_s]
    simp
  · dsimp only at he
    rw [Nat.zero_add, Nat.zero_add, Nat.zero_add]
    by_cases hj : j < l.length
    · rw [List.getElem?_append_left hj] at he
      have h8 := hL.2 j e he
      rw [Nat.zero_add, Nat.zero_add, Nat.zero_add] at h8
      refine ⟨by rw [lo _ (by omega) (by omega)]; exact h8.1, by rw [lo _ (by omega) (by omega)]; exact h8.2.1, by rw [lo _ (by omega) (by omega)]; exact h8.2.2⟩
    · rw [List.getElem?_append_right (by omega)] at he
      have hj2 : j - l.length = 0 := by have := getE_lt he; simpa using this
      rw [hj2] at he
      cases he
      have ej : j = l.length := by omega
      rw [ej]
      refine ⟨by rw [zu_k (by omega), zu_k (by omega), zu_k (by omega), zu_s], ?_, ?_⟩
      · rw [show 202 + 3 * l.length = 201 + 3 * l.length + 1 by omega, zu_k (by omega), zu_k (by omega), zu_s]
      · rw [show 203 + 3 * l.length = 201 + 3 * l.length + 2 by omega, zu_k (by omega), zu_s]
theorem r_note_s {na : Nat} (ha : g.1 a = some (100, na)) (hna : 381 ≤ na ∧ na < 2 ^ 31) {i2 i3 : Int32} (k : ∀ I', (∀ q, q ≠ a → I' q = I q) → (∀ j, j < 200 → I' a j = I a j) → I' a 200 = I a 200 - nI 1 → (∀ j, 201 ≤ j → j ≤ 377 → I' a j = I a (j + 3)) → qev d 212 (54, [.ref 105, .ref a, .int i2, .int i3, .int (nI 178)], [], g, I', J) Q) : ∀ f i I', i + f = 178 → 1 ≤ i → (∀ q, q ≠ a → I' q = I q) → (∀ j, j ≤ 200 → I' a j = I a j) → (∀ j, 201 ≤ j → j < 200 + i → I' a j = I a (j + 3)) → (∀ j, 200 + i ≤ j → I' a j = I a j) → qev d 212 (13, [.ref 105, .ref a, .int i2, .int i3, .int (nI i)], [], g, I', J) Q
  | 0, i, I', hi, h0, hf, h1, h2, h3 => by
    have e : i = 178 := by omega
    subst e
    refine w212_13 ha hna.2 ⟨fun _ => ⟨200, rfl, by omega, 200, rfl, by omega, ?_⟩, fun h4 => ?_⟩
    · refine k _ (fun q hq => by rw [zu_a hq]; exact hf q hq) (fun j hj => by rw [zu_k (by omega)]; exact h1 j (by omega)) (by rw [zu_s, h1 200 (by omega)]) (fun j a1 a2 => by rw [zu_k (by omega)]; exact h2 j a1 (by omega))
    · rw [nI_ltI (by omega) (by omega)] at h4; omega
  | f + 1, i, I', hi, h0, hf, h1, h2, h3 => by
    refine w212_13 ha hna.2 ⟨fun h4 => ?_, fun _ => ⟨200 + i + 3, by rw [nI_add, nI_add], by omega, 200 + i, nI_add _ _, by omega, ?_⟩⟩
    · rw [nI_ltI (by omega) (by omega)] at h4; omega
    · rw [nI_add]
      refine r_note_s ha hna k f (i + 1) _ (by omega) (by omega) (fun q hq => by rw [zu_a hq]; exact hf q hq) (fun j hj => by rw [zu_k (by omega)]; exact h1 j hj) (fun j a1 a2 => ?_) (fun j hj => by rw [zu_k (by omega)]; exact h3 j (by omega))
      by_cases hj : j = 200 + i
      · rw [hj, zu_s]; exact h3 _ (by omega)
      · rw [zu_k hj]; exact h2 j a1 (by omega)
theorem r_note {na : Nat} (ha : g.1 a = some (100, na)) (hna : 381 ≤ na ∧ na < 2 ^ 31) (h1 : rSt I a 0 s) (hb : bdST s) {r so : Nat} (hr : r < 8) (k : ∀ I', rSt I' a 0 (s.1, nt s.2 (so, r, (s.1 r).1)) → (∀ q, q ≠ a → I' q = I q) → Q none g I' J) : qC d 212 [.ref 105, .ref a, .int (nI so), .int (nI r)] g I J Q := by
  obtain ⟨regs, l⟩ := s
  obtain ⟨hG, hL⟩ := h1
  dsimp only at *
  have hl60 : l.length ≤ 60 := hb.2
  have h200 : I a 200 = nI l.length := by have := hL.1; rw [Nat.zero_add] at this; exact this
  refine w212 ha hna.2 ⟨200, rfl, by omega, fun h3 => ?_, fun h3 => ?_⟩
  · rw [h200, nI_eq (by omega) (by omega)] at h3
    have hn : nt l (so, r, (regs r).1) = l.drop 1 ++ [(so, r, (regs r).1)] := by unfold nt; rw [if_pos h3]
    refine r_note_s ha hna (fun I1 f1 f2 f3 f4 => ?_) 177 1 I (by omega) (Nat.le_refl _) (fun _ _ => rfl) (fun _ _ => rfl) (fun j a1 a2 => by omega) (fun _ _ => rfl)
    refine r_note_e ha hna (regs := regs) (l := l.drop 1) (I := I1) (fun q hq => ?_) ⟨?_, fun j e he => ?_⟩ (by rw [List.length_drop]; omega) hr hb.1 (fun I2 a1 a2 => k I2 ?_ (fun q hq => by rw [a2 q hq]; exact f1 q hq))
    · have hgq := hG q hq
      have hbq : (regs q).1 ≤ 24 := hb.1 q hq
      refine ⟨by rw [f2 _ (by omega)]; exact hgq.1, fun i hi => by rw [f2 _ (by omega)]; exact hgq.2 i hi⟩
    · rw [Nat.zero_add, f3, h200, List.length_drop, pk_sub (by omega)]
    · rw [List.getElem?_drop] at he
      have := getE_lt he
      have h8 := hL.2 _ e he
      rw [Nat.zero_add, Nat.zero_add, Nat.zero_add] at h8 ⊢
      refine ⟨?_, ?_, ?_⟩
      · rw [f4 _ (by omega) (by omega), show 201 + 3 * j + 3 = 201 + 3 * (1 + j) by omega]; exact h8.1
      · rw [f4 _ (by omega) (by omega), show 202 + 3 * j + 3 = 202 + 3 * (1 + j) by omega]; exact h8.2.1
      · rw [f4 _ (by omega) (by omega), show 203 + 3 * j + 3 = 203 + 3 * (1 + j) by omega]; exact h8.2.2
    · rw [hn]; exact a1
  · rw [h200, nI_eq (by omega) (by omega)] at h3
    have hn : nt l (so, r, (regs r).1) = l ++ [(so, r, (regs r).1)] := by unfold nt; rw [if_neg h3]
    exact r_note_e ha hna hG hL (by omega) hr hb.1 (fun I2 a1 a2 => k I2 (by rw [hn]; exact a1) a2)
/-! a STEP done on a row -/
def dn (s : ST) (t : Nat) (f : Sr) : ST := (up s.1 t f, nt s.2 (0, t, f.1))
theorem r_does_l (hs : qSh g) {na : Nat} (ha : g.1 a = some (100, na)) (hna : 381 ≤ na ∧ na < 2 ^ 31) (ha2 : a ≠ 115 ∧ a ≠ 105 ∧ a ≠ 107) {f : Sr} {t pl : Nat} (ht : t < 8) (hpl : pl < 41) (h107 : I 107 pl = nI t) (hS : rS I 0 f.1 f.2) (hf : f.1 ≤ 24) {i3 : Int32} (k : ∀ I', (∀ q, q ≠ a → I' q = I q) → (∀ j, (j < 25 * t ∨ 25 * t + 25 ≤ j) → I' a j = I a j) → I' a (25 * t) = nI f.1 → (∀ i, i < f.1 → I' a (25 * t + 1 + i) = iI (f.2 i)) → qC d 212 [.ref 105, .ref a, .int (nI 0), .int (nI t)] g I' J (fun v _ I1 _ => v = none ∧ Q (some (.int (-1))) g I1 J)) :
    ∀ h i I', i + h = 25 → (∀ q, q ≠ a → I' q = I q) → (∀ j, (j < 25 * t ∨ 25 * t + 25 ≤ j) → I' a j = I a j) → (0 < i → I' a (25 * t) = nI f.1) → (∀ j, j < f.1 → j + 1 < i → I' a (25 * t + 1 + j) = iI (f.2 j)) → qev (d + 1) 216 (17, [.ref 105, .ref a, .int (nI pl), .int i3, .int (nI i)], [], g, I', J) Q
  | 0, i, I', hi, f1, f2, f3, f4 => by
    have e107 : I' 107 pl = nI t := by rw [f1 107 (by omega)]; exact h107
    refine w216_17 hs ha hna.2 ⟨fun _ => ⟨pl, rfl, hpl, ?_⟩, fun h4 => ?_⟩
    · rw [e107]; exact k I' f1 f2 (f3 (by omega)) (fun j hj => f4 j hj (by omega))
    · rw [nI_leI (by omega) (by omega)] at h4; omega
  | h + 1, i, I', hi, f1, f2, f3, f4 => by
    have e107 : I' 107 pl = nI t := by rw [f1 107 (by omega)]; exact h107
    have e115 : I' 115 = I 115 := f1 115 (by omega)
    have hlen : I' 115 (25 * 0) = nI f.1 := by rw [e115]; exact hS.1
    have ei : nI 25 * nI t + nI i = nI (25 * t + i) := by rw [pk_mul, nI_add]
    refine w216_17 hs ha hna.2 ⟨fun h4 => ?_, fun _ => ⟨pl, rfl, hpl, r_len hs (r := 0) (by omega) hlen ⟨_, rfl, fun h4 => ⟨25 * t + i, ?_, by omega, ?_⟩, fun h4 => ⟨i, rfl, by omega, 25 * t + i, ?_, by omega, ?_⟩⟩⟩⟩
    · rw [nI_leI (by omega) (by omega)] at h4; omega
    · rw [e107]; exact ei
    · rw [nI_ltI (by omega) (by omega)] at h4
      rw [nI_add]
      refine r_does_l hs ha hna ha2 ht hpl h107 hS hf k h (i + 1) _ (by omega) (fun q hq => by rw [zu_a hq]; exact f1 q hq) (fun j hj => by rw [zu_k (by omega)]; exact f2 j hj) (fun _ => by rw [zu_k (by omega)]; exact f3 (by omega)) (fun j a1 a2 => by rw [zu_k (by omega)]; exact f4 j a1 (by omega))
    · rw [e107]; exact ei
    · rw [nI_ltI (by omega) (by omega)] at h4
      rw [nI_add, e115]
      refine r_does_l hs ha hna ha2 ht hpl h107 hS hf k h (i + 1) _ (by omega) (fun q hq => by rw [zu_a hq]; exact f1 q hq) (fun j hj => by rw [zu_k (by omega)]; exact f2 j hj) (fun _ => ?_) (fun j a1 a2 => ?_)
      · by_cases h0 : i = 0
        · have := hS.1
          rw [h0, Nat.add_zero, zu_s]; exact this
        · rw [zu_k (by omega)]; exact f3 (by omega)
      · by_cases hj : j + 1 = i
        · have := hS.2 j a1
          rw [Nat.mul_zero, Nat.zero_add] at this
          rw [← hj, show 25 * t + (j + 1) = 25 * t + 1 + j by omega, zu_s, show j + 1 = 1 + j by omega]; exact this
        · rw [zu_k (by omega)]; exact f4 j a1 (by omega)
/-- what doing changes -/
def rDF (a : Nat) (I I' : qI) : Prop := (∀ b, b ≠ 115 → b ≠ 105 → b ≠ a → I' b = I b) ∧ ∀ k, k ≠ 25 → I' 105 k = I 105 k
theorem r_does (hs : qSh g) (hr : rR I p M) {na : Nat} (ha : g.1 a = some (100, na)) (hna : 381 ≤ na ∧ na < 2 ^ 31) (ha2 : a ≠ 115 ∧ a ≠ 105 ∧ a ≠ 107 ∧ a ≠ 108 ∧ a ≠ 109) (hS : rSt I a 0 s) (hok : okST p M s) {pl t : Nat} (hpl : pl < 41) (ht : t < 8) (h107 : I 107 pl = nI t) {ops : List (Nat × Nat)} (hO : rOps I pl ops) (hwf : wf ops)
    (k0 : (xRun p M s.1 ops []).1 ≠ -1 → ∀ I', rWF I I' → Q (some (.int (iI (xRun p M s.1 ops []).1))) g I' J)
    (k : (xRun p M s.1 ops []).1 = -1 → ∀ I', rSt I' a 0 (dn s t (xRun p M s.1 ops []).2) → rDF a I I' → Q (some (.int (-1))) g I' J) : qC (d + 7) 216 [.ref 105, .ref a, .int (nI pl)] g I J Q := by
  have hbd := why_bd (p := p) (M := M) (regs := s.1) ops []
  refine w216 hs ha hna.2 (r_work hs hr ha (by omega) (by omega) hS.1 hok.1 hpl hO hwf (fun I1 a1 f1 => ⟨_, rfl, fun h3 => ?_, fun h3 => ?_⟩))
  · have h6 := (iI_neg1 hbd).mp h3
    have a1 := a1 h6
    have oR := xRun_ok hr.2.2.1 hr.2.2.2 hok.1 ops [] hwf.1 hwf.2 (fun f hf => by cases hf) h6
    have hs1 : rSt I1 a 0 s := hS.keep (f1.1 a (by omega) (by omega))
    generalize (xRun p M s.1 ops []).2 = f at *
    have hM := hr.2.2.2
    have hfM := oR.2.1
    have hf24 : f.1 ≤ 24 := oR.2.2.1
    refine r_does_l hs ha hna (by omega) ht hpl (by rw [f1.1 107 (by omega) (by omega)]; exact h107) a1 hf24 (fun I2 g1 g2 g3 g4 => ?_) 25 0 I1 (by omega) (fun _ _ => rfl) (fun _ _ => rfl) (fun h => by omega) (fun j _ h => by omega)
    have hs2 : rSt I2 a 0 (up s.1 t f, s.2) := by
      refine ⟨fun q hq => ?_, ?_, fun j e he => ?_⟩
      · show _ = nI (up s.1 t f q).1 ∧ ∀ i, i < (up s.1 t f q).1 → _ = iI ((up s.1 t f q).2 i)
        unfold up
        by_cases hqt : q = t
        · rw [if_pos hqt, hqt, Nat.zero_add]
          exact ⟨g3, g4⟩
        · rw [if_neg hqt]
          have hgq := hs1.1 q hq
          have hbq := (hok.1 q hq).2.1
          refine ⟨by rw [g2 _ (by omega)]; exact hgq.1, fun i hi => by rw [g2 _ (by omega)]; exact hgq.2 i hi⟩
      · rw [g2 _ (by omega)]; exact hs1.2.1
      · have h8 := hs1.2.2 j e he
        exact ⟨by rw [g2 _ (by omega)]; exact h8.1, by rw [g2 _ (by omega)]; exact h8.2.1, by rw [g2 _ (by omega)]; exact h8.2.2⟩
    have eut : (up s.1 t f t) = f := if_pos rfl
    refine r_note (s := (up s.1 t f, s.2)) ha hna hs2 ⟨fun q hq => ?_, hok.2.1⟩ ht (fun I3 b1 b2 => ⟨rfl, k h6 I3 ?_ ⟨fun b c1 c2 c3 => by rw [b2 b c3, g1 b c3, f1.1 b c1 c2], fun q hq => by rw [b2 105 (by omega), g1 105 (by omega), f1.2 q hq]⟩⟩)
    · have := (up_ok (r := t) hok.1 ⟨hfM, oR.2.2⟩ q hq).2.1
      exact this
    · have e5 : (up s.1 t f t).1 = f.1 := by rw [eut]
      dsimp only at b1
      rw [e5] at b1
      exact b1
  · have h6 : ¬ (xRun p M s.1 ops []).1 = -1 := fun e => h3 (by rw [e]; exact iI_zm1.symm)
    exact k0 h6 I1 f1
theorem dn_ok {p M : Nat} {s : ST} {t : Nat} {f : Sr} (h : okST p M s) (ht : t < 8) (hf : okR p M f) : okST p M (dn s t f) :=
  ⟨up_ok h.1 ⟨hf.2.1, hf.2.2⟩, nt_ok h.2 ⟨Nat.zero_le _, ht, hf.2.2.1⟩⟩
end RSTATE
