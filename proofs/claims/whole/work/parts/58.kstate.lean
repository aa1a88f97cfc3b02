/-! a state: REGISTERS and the LOG (the oldest first), in the class -/
abbrev LE : Type := Nat × Nat × Nat
abbrev ST : Type := (Nat → Sr) × List LE
def nt (l : List LE) (e : LE) : List LE := (if l.length = 60 then l.drop 1 else l) ++ [e]
def up (regs : Nat → Sr) (r : Nat) (f : Sr) : Nat → Sr := fun q => if q = r then f else regs q
def pkE (e : LE) : Nat := e.1 * 1000 + e.2.1 * 100 + e.2.2
def okE (e : LE) : Prop := e.1 ≤ 3 ∧ e.2.1 < 8 ∧ e.2.2 ≤ 24
def okL (l : List LE) : Prop := l.length ≤ 60 ∧ ∀ e, e ∈ l → okE e
def okST (p M : Nat) (s : ST) : Prop := okG p M s.1 ∧ okL s.2
def kL (I : qI) (a : Nat) (l : List LE) : Prop := I a 3 = nI l.length ∧ ∀ j e, l[j]? = some e → I (a + 3) j = nI (pkE e)
def kSt (I : qI) (a : Nat) (s : ST) : Prop := kG I a s.1 ∧ kL I a s.2
theorem kL.keep {I I' : qI} {a : Nat} {l : List LE} (h : kL I a l) (h1 : I' a = I a) (h2 : I' (a + 3) = I (a + 3)) : kL I' a l := ⟨by rw [h1]; exact h.1, fun j e he => by rw [h2]; exact h.2 j e he⟩
theorem kSt.keep {I I' : qI} {a : Nat} {s : ST} (h : kSt I a s) (hf : ∀ b, a ≤ b → b ≤ a + 3 → I' b = I b) : kSt I' a s := ⟨h.1.keep (hf _ (by omega) (by omega)) (hf _ (by omega) (by omega)), h.2.keep (hf _ (by omega) (by omega)) (hf _ (by omega) (by omega))⟩
theorem nt_ok {l : List LE} {e : LE} (h : okL l) (he : okE e) : okL (nt l e) := by
  unfold nt
  refine ⟨?_, fun q hq => ?_⟩
  · rw [List.length_append]
    have := h.1
    split
    · rw [List.length_drop]; simp only [List.length_cons, List.length_nil]; omega
    · simp only [List.length_cons, List.length_nil]; omega
  · rcases List.mem_append.mp hq with h1 | h1
    · split at h1
      · exact h.2 q (List.mem_of_mem_drop h1)
      · exact h.2 q h1
    · rw [List.mem_singleton.mp h1]; exact he
theorem up_ok {p M r : Nat} {regs : Nat → Sr} {f : Sr} (h : okG p M regs) (hf : f.1 ≤ M ∧ okS p f.1 f.2) : okG p M (up regs r f) := fun q hq => by
  unfold up
  by_cases h1 : q = r
  · rw [if_pos h1]; exact hf
  · rw [if_neg h1]; exact h q hq
theorem getE_lt {α : Type} {l : List α} {j : Nat} {e : α} (h : l[j]? = some e) : j < l.length := (List.getElem?_eq_some_iff.mp h).1
section KSTATE
variable {d : Nat} {g : qG} {I : qI} {J : qJ} {Q : qQ} {p M n m x a b : Nat} {regs : Nat → Sr} {s : ST} {l : List LE}
theorem k_copySt (ha : qSta g a) (hb : qSta g b) (hd : a + 3 < b ∨ b + 3 < a) (h1 : kSt I b s) (hG : ∀ r, r < 8 → (s.1 r).1 ≤ 24) (hL : s.2.length ≤ 60) (k : ∀ I', kSt I' a s → (∀ q, (q < a ∨ a + 3 < q) → I' q = I q) → Q none g I' J) : qC d 80 [.ref a, .ref b] g I J Q := by
  refine w80 ha hb ⟨0, 0, 8, rfl, rfl, rfl, by omega, by omega, 0, 0, 192, rfl, rfl, rfl, by omega, by omega, 0, 0, 60, rfl, rfl, rfl, by omega, by omega, ?_⟩
  refine k _ ⟨fun r hr => ⟨?_, fun i hi => ?_⟩, ?_, fun j e he => ?_⟩ (fun q hq => by rw [zu_a (by omega), zv_a (by omega), zv_a (by omega), zv_a (by omega)])
  · rw [zu_a (by omega), zv_a (by omega), zv_a (by omega), zv_s, pk_cpy_in (by omega) (by omega), show 0 + (r - 0) = r by omega]
    exact (h1.1 r hr).1
  · have := hG r hr
    rw [zu_a (by omega), zv_a (by omega), zv_s, pk_cpy_in (by omega) (by omega), zv_a (by omega), show 0 + (24 * r + i - 0) = 24 * r + i by omega]
    exact (h1.1 r hr).2 i hi
  · rw [zu_s, zv_a (by omega), zv_a (by omega), zv_a (by omega)]
    exact h1.2.1
  · have := getE_lt he
    rw [zu_a (by omega), zv_s, pk_cpy_in (by omega) (by omega), zv_a (by omega), zv_a (by omega), show 0 + (j - 0) = j by omega]
    exact h1.2.2 j e he
theorem k_clearSt (ha : qSta g a) (k : ∀ I', kSt I' a (fun _ => dS, []) → (∀ q, (q < a ∨ a + 3 < q) → I' q = I q) → Q none g I' J) : qC (d + 1) 79 [.ref a] g I J Q := by
  refine w79 ha (k_fill ha.k0 (by omega) (fun I1 hA => ⟨rfl, k _ ⟨fun r hr => ⟨?_, fun i hi => absurd hi (Nat.not_lt_zero i)⟩, zu_s, fun j e he => by cases he⟩ (fun q hq => by rw [zu_a (by omega)]; exact hA.1 q (by omega))⟩))
  rw [zu_a (by omega), hA.2.1 r hr]
  rfl
theorem k_cell (ha : qSta g a) (hG : kG I a regs) {r i : Nat} (hr : r < 8) (hi : i < (regs r).1) (h24 : (regs r).1 ≤ 24) {u v : Int32} (hu : u = nI r) (hv : v = nI i) (k : Q (some (.int (iI ((regs r).2 i)))) g I J) : qC d 81 [.ref a, .int u, .int v] g I J Q := by
  subst hu hv
  have e : nI r * nI 24 + nI i = nI (24 * r + i) := by rw [pk_mul, nI_add, Nat.mul_comm]
  refine w81 ha ?_
  rw [e]
  refine ⟨fun h3 => absurd h3 (nI_pos (by omega)), fun _ => ⟨fun _ => ⟨24 * r + i, rfl, by omega, ?_⟩, fun h3 => ?_⟩⟩
  · rw [(hG r hr).2 i hi]; exact k
  · rw [nI_ltI (by omega) (by omega)] at h3; omega
theorem k_store (ha : qSta g a) (hx : qSer g x) (hd : x + 1 < a ∨ a + 3 < x) {f : Sr} (h1 : kSt I a s) (h2 : kS I x f.1 f.2) (hf : f.1 ≤ 24) (hG : ∀ r, r < 8 → (s.1 r).1 ≤ 24) {r : Nat} (hr : r < 8) (k : ∀ I', kSt I' a (up s.1 r f, s.2) → (∀ q, q ≠ a + 1 → q ≠ a + 2 → I' q = I q) → Q none g I' J) : qC d 83 [.ref a, .int (nI r), .ref x] g I J Q := by
  refine w83 ha hx ⟨fun h3 => absurd h3 (nI_pos (by omega)), fun _ => ⟨fun h3 => ?_, fun _ => ⟨0, 24 * r, 24, rfl, by rw [pk_mul, Nat.mul_comm], rfl, by omega, by omega, r, rfl, hr, ?_⟩⟩⟩
  · rw [nI_leI (by omega) (by omega)] at h3; omega
  · refine k _ ⟨fun q hq => ?_, h1.2.keep (by rw [zu_a (by omega), zv_a (by omega)]) (by rw [zu_a (by omega), zv_a (by omega)])⟩ (fun q h3 h4 => by rw [zu_a h3, zv_a h4])
    have hg1 := h1.1 q hq
    have hg2 := hG q hq
    unfold up
    dsimp only
    by_cases hqr : q = r
    · rw [if_pos hqr, hqr]
      refine ⟨by rw [zu_s, zv_a (by omega)]; exact h2.1, fun i hi => ?_⟩
      rw [zu_a (by omega), zv_s, pk_cpy_in (by omega) (by omega), show 0 + (24 * r + i - 24 * r) = i by omega]
      exact h2.2 i hi
    · rw [if_neg hqr]
      refine ⟨by rw [zu_k hqr, zv_a (by omega)]; exact hg1.1, fun i hi => ?_⟩
      rw [zu_a (by omega), zv_s, pk_cpy_out (by omega)]
      exact hg1.2 i hi
theorem k_note (ha : qSta g a) (h1 : kSt I a s) (hL : okL s.2) {r so : Nat} (hr : r < 8) (hso : so ≤ 3) (hl : (s.1 r).1 ≤ 24) (k : ∀ I', kSt I' a (s.1, nt s.2 (so, r, (s.1 r).1)) → (∀ q, q ≠ a → q ≠ a + 3 → I' q = I q) → Q none g I' J) : qC d 85 [.ref a, .int (nI so), .int (nI r)] g I J Q := by
  obtain ⟨regs, l⟩ := s
  dsimp only at *
  obtain ⟨hG, hl1, hl2⟩ := h1
  dsimp only at hG hl1 hl2
  have hg := (hG r hr).1
  have ev : nI so * nI 1000 + nI r * nI 100 + nI (regs r).1 = nI (pkE (so, r, (regs r).1)) := by rw [pk_mul, pk_mul, nI_add, nI_add]; rfl
  have hL60 := hL.1
  refine w85 ha ⟨fun h3 => ?_, fun h3 => ?_⟩
  · rw [hl1, nI_eq (by omega) (by omega)] at h3
    refine ⟨1, 0, 59, rfl, rfl, rfl, by omega, by omega, r, rfl, hr, 59, ?_, by omega, ?_⟩
    · rw [zu_s, zv_a (by omega), hl1, h3, pk_sub (by omega)]
    · rw [zu_ab (b := a + 1) (by omega), zv_a (b := a + 1) (by omega), hg, ev]
      have hn : nt l (so, r, (regs r).1) = l.drop 1 ++ [(so, r, (regs r).1)] := by unfold nt; rw [if_pos h3]
      refine k _ ?_ (fun q h4 h5 => by rw [zu_a h4, zu_a h5, zu_a h4, zv_a h5])
      rw [hn]
      refine ⟨hG.keep (by rw [zu_a (by omega), zu_a (by omega), zu_a (by omega), zv_a (by omega)]) (by rw [zu_a (by omega), zu_a (by omega), zu_a (by omega), zv_a (by omega)]), ?_, fun j e he => ?_⟩
      · rw [zu_s, zu_a (by omega), zu_s, zv_a (by omega), hl1, h3, pk_sub (by omega), nI_add]
        simp [h3]
      · rw [zu_a (by omega)]
        dsimp only at he
        by_cases hj : j < (l.drop 1).length
        · rw [List.getElem?_append_left hj, List.getElem?_drop] at he
          rw [List.length_drop] at hj
          rw [zu_k (by omega), zu_a (by omega), zv_s, pk_cpy_in (by omega) (by omega), show 1 + (j - 0) = 1 + j by omega]
          exact hl2 _ e he
        · rw [List.getElem?_append_right (by omega)] at he
          have hj2 : j - (l.drop 1).length = 0 := by have := getE_lt he; simpa using this
          rw [hj2] at he
          cases he
          rw [List.length_drop] at hj hj2
          rw [show j = 59 by omega, zu_s]
  · rw [hl1, nI_eq (by omega) (by omega)] at h3
    refine ⟨r, rfl, hr, l.length, hl1, by omega, ?_⟩
    rw [hg, ev]
    have hn : nt l (so, r, (regs r).1) = l ++ [(so, r, (regs r).1)] := by unfold nt; rw [if_neg h3]
    refine k _ ?_ (fun q h4 h5 => by rw [zu_a h4, zu_a h5])
    rw [hn]
    refine ⟨hG.keep (by rw [zu_a (by omega), zu_a (by omega)]) (by rw [zu_a (by omega), zu_a (by omega)]), ?_, fun j e he => ?_⟩
    · rw [zu_s, zu_a (by omega), hl1, nI_add]
      simp
    · rw [zu_a (by omega)]
      dsimp only at he
      by_cases hj : j < l.length
      · rw [List.getElem?_append_left hj] at he
        rw [zu_k (by omega)]
        exact hl2 j e he
      · rw [List.getElem?_append_right (by omega)] at he
        have hj2 : j - l.length = 0 := by have := getE_lt he; simpa using this
        rw [hj2] at he
        cases he
        rw [show j = l.length by omega, zu_s]
/-- two REGISTERS change places -/
def swp (regs : Nat → Sr) (r q : Nat) : Nat → Sr := fun t => if t = r then regs q else if t = q then regs r else regs t
theorem k_exch_l (ha : qSta g a) {r q : Nat} (hr : r < 8) (hq : q < 8) (hne : r ≠ q) {i3 : Int32} (k : ∀ I', (∀ b, b ≠ a + 2 → I' b = I b) → (∀ j, j < 24 → I' (a + 2) (24 * r + j) = I (a + 2) (24 * q + j) ∧ I' (a + 2) (24 * q + j) = I (a + 2) (24 * r + j)) → (∀ t j, t ≠ r → t ≠ q → j < 24 → I' (a + 2) (24 * t + j) = I (a + 2) (24 * t + j)) → Q none g I' J) : ∀ (f i : Nat) (I' : qI) (w5 : Value), i + f = 24 → (∀ b, b ≠ a + 2 → I' b = I b) → (∀ j, j < i → I' (a + 2) (24 * r + j) = I (a + 2) (24 * q + j) ∧ I' (a + 2) (24 * q + j) = I (a + 2) (24 * r + j)) → (∀ j, i ≤ j → j < 24 → I' (a + 2) (24 * r + j) = I (a + 2) (24 * r + j) ∧ I' (a + 2) (24 * q + j) = I (a + 2) (24 * q + j)) → (∀ t j, t ≠ r → t ≠ q → j < 24 → I' (a + 2) (24 * t + j) = I (a + 2) (24 * t + j)) → qev d 84 (29, [.ref a, .int (nI r), .int (nI q), .int i3, .int (nI i), w5], [], g, I', J) Q
  | 0, i, I', w5, hi, hf, h1, h2, h3 => by
    refine w84_29 ha ⟨fun _ => k I' hf (fun j hj => h1 j (by omega)) h3, fun h4 => ?_⟩
    rw [nI_leI (by omega) (by omega)] at h4; omega
  | f + 1, i, I', w5, hi, hf, h1, h2, h3 => by
    have er : nI r * nI 24 + nI i = nI (24 * r + i) := by rw [pk_mul, nI_add, Nat.mul_comm]
    have eq : nI q * nI 24 + nI i = nI (24 * q + i) := by rw [pk_mul, nI_add, Nat.mul_comm]
    refine w84_29 ha ⟨fun h4 => ?_, fun _ => ⟨24 * r + i, er, by omega, 24 * q + i, eq, by omega, 24 * r + i, er, by omega, 24 * q + i, eq, by omega, ?_⟩⟩
    · rw [nI_leI (by omega) (by omega)] at h4; omega
    · rw [nI_add]
      have h5 := h2 i (Nat.le_refl _) (by omega)
      refine k_exch_l ha hr hq hne k f (i + 1) _ _ (by omega) (fun b hb => by rw [zu_a hb, zu_a hb]; exact hf b hb) (fun j hj => ?_) (fun j hj hj2 => ?_) (fun t j ht1 ht2 hj => ?_)
      · by_cases hji : j = i
        · rw [hji]
          refine ⟨by rw [zu_k (by omega), zu_s]; exact h5.2, by rw [zu_s]; exact h5.1⟩
        · have := h1 j (by omega)
          refine ⟨by rw [zu_k (by omega), zu_k (by omega)]; exact this.1, by rw [zu_k (by omega), zu_k (by omega)]; exact this.2⟩
      · have := h2 j (by omega) hj2
        refine ⟨by rw [zu_k (by omega), zu_k (by omega)]; exact this.1, by rw [zu_k (by omega), zu_k (by omega)]; exact this.2⟩
      · rw [zu_k (by omega), zu_k (by omega)]; exact h3 t j ht1 ht2 hj
theorem k_exch (ha : qSta g a) (h1 : kSt I a s) (hG : ∀ r, r < 8 → (s.1 r).1 ≤ 24) {r q : Nat} (hr : r < 8) (hq : q < 8) (hne : r ≠ q) (k : ∀ I', kSt I' a (swp s.1 r q, s.2) → (∀ b, b ≠ a + 1 → b ≠ a + 2 → I' b = I b) → Q none g I' J) : qC d 84 [.ref a, .int (nI r), .int (nI q)] g I J Q := by
  have hgr := (h1.1 r hr).1
  have hgq := (h1.1 q hq).1
  refine w84 ha ⟨r, rfl, hr, q, rfl, hq, r, rfl, hr, q, rfl, hq, ?_⟩
  refine k_exch_l ha hr hq hne (fun I' f1 f2 f3 => k I' ⟨fun t ht => ?_, h1.2.keep (by rw [f1 a (by omega), zu_a (by omega), zu_a (by omega)]) (by rw [f1 (a + 3) (by omega), zu_a (by omega), zu_a (by omega)])⟩ (fun b h3 h4 => by rw [f1 b h4, zu_a h3, zu_a h3])) 24 0 _ qpad (by omega) (fun _ _ => rfl) (fun j hj => absurd hj (Nat.not_lt_zero j)) (fun _ _ _ => ⟨rfl, rfl⟩) (fun _ _ _ _ _ => rfl)
  have hb := hG t ht
  unfold swp
  dsimp only
  have z2 : ∀ j, (qw (qw I (a + 1) r (I (a + 1) q)) (a + 1) q (I (a + 1) r)) (a + 2) j = I (a + 2) j := fun j => by rw [zu_a (by omega), zu_a (by omega)]
  by_cases h4 : t = r
  · have hb2 := hG q hq
    rw [if_pos h4, h4]
    refine ⟨by rw [f1 (a + 1) (by omega), zu_k (by omega), zu_s]; exact hgq, fun i hi => ?_⟩
    rw [(f2 i (by omega)).1, z2]
    exact (h1.1 q hq).2 i hi
  · by_cases h5 : t = q
    · have hb2 := hG r hr
      rw [if_neg h4, if_pos h5, h5]
      refine ⟨by rw [f1 (a + 1) (by omega), zu_s]; exact hgr, fun i hi => ?_⟩
      rw [(f2 i (by omega)).2, z2]
      exact (h1.1 r hr).2 i hi
    · rw [if_neg h4, if_neg h5]
      refine ⟨by rw [f1 (a + 1) (by omega), zu_k h5, zu_k h4]; exact (h1.1 t ht).1, fun i hi => ?_⟩
      rw [f3 t i h4 h5 (by omega), z2]
      exact (h1.1 t ht).2 i hi
end KSTATE
