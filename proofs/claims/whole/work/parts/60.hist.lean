/-! ACTS that can be UNDONE: states, the oldest first, 40 at most -/
def pushH (hs : List ST) (s : ST) : List ST := (if hs.length = 40 then hs.drop 1 else hs) ++ [s]
theorem pushH_len {hs : List ST} {s : ST} (h : hs.length ≤ 40) : (pushH hs s).length = min (hs.length + 1) 40 := by
  unfold pushH
  rw [List.length_append]
  split
  · rw [List.length_drop]; simp only [List.length_cons, List.length_nil]; omega
  · simp only [List.length_cons, List.length_nil]; omega
theorem pushH_mem {hs : List ST} {s q : ST} (h : q ∈ pushH hs s) : q ∈ hs ∨ q = s := by
  unfold pushH at h
  rcases List.mem_append.mp h with h1 | h1
  · split at h1
    · exact Or.inl (List.mem_of_mem_drop h1)
    · exact Or.inl h1
  · exact Or.inr (List.mem_singleton.mp h1)
/-- an entry of the new row: the new one, last, or an old one -/
theorem pushH_at {hs : List ST} {s q : ST} {j : Nat} (hl : hs.length ≤ 40) (h : (pushH hs s)[j]? = some q) : (j + 1 = (pushH hs s).length ∧ q = s) ∨ (j + 1 < (pushH hs s).length ∧ hs[j + (hs.length + 1 - (pushH hs s).length)]? = some q) := by
  rw [pushH_len hl]
  unfold pushH at h
  by_cases h40 : hs.length = 40
  · rw [if_pos h40] at h
    by_cases hj : j < (hs.drop 1).length
    · rw [List.getElem?_append_left hj, List.getElem?_drop] at h
      rw [List.length_drop] at hj
      refine Or.inr ⟨by omega, ?_⟩
      rw [show j + (hs.length + 1 - min (hs.length + 1) 40) = 1 + j by omega]
      exact h
    · rw [List.getElem?_append_right (by omega)] at h
      have hj2 : j - (hs.drop 1).length = 0 := by have := getE_lt h; simpa using this
      rw [hj2] at h
      cases h
      rw [List.length_drop] at hj hj2
      exact Or.inl ⟨by omega, rfl⟩
  · rw [if_neg h40] at h
    by_cases hj : j < hs.length
    · rw [List.getElem?_append_left hj] at h
      refine Or.inr ⟨by omega, ?_⟩
      rw [show j + (hs.length + 1 - min (hs.length + 1) 40) = j by omega]
      exact h
    · rw [List.getElem?_append_right (by omega)] at h
      have hj2 : j - hs.length = 0 := by have := getE_lt h; simpa using this
      rw [hj2] at h
      cases h
      exact Or.inl ⟨by omega, rfl⟩
def rH (I : qI) (fs : Nat) (hs : List ST) : Prop := I 105 21 = nI fs ∧ fs < 40 ∧ I 105 22 = nI hs.length ∧ hs.length ≤ 40 ∧ ∀ j s, hs[j]? = some s → rSt I 114 (381 * ((fs + j) % 40)) s
theorem rH.keep {I I' : qI} {fs : Nat} {hs : List ST} (h : rH I fs hs) (h1 : I' 105 21 = I 105 21) (h2 : I' 105 22 = I 105 22) (h3 : I' 114 = I 114) : rH I' fs hs := ⟨by rw [h1]; exact h.1, h.2.1, by rw [h2]; exact h.2.2.1, h.2.2.2.1, fun j s hj => (h.2.2.2.2 j s hj).keep h3⟩
section HIST
variable {d : Nat} {g : qG} {I : qI} {J : qJ} {Q : qQ} {p M n m x a b fs : Nat} {s : ST} {hs : List ST}
theorem rem40 {n : Nat} (h : n < 1000) : qrem (nI n) (nI 40) = nI (n % 40) := by rw [qrem, pk_rem (by omega) (by omega) (by omega)]
theorem r_rem (hsh : qSh g) (hH : rH I fs hs) (hS : rSt I 111 0 s) (hb : bdST s) (hbs : ∀ q, q ∈ hs → bdST q) (k : ∀ I' fs', rH I' fs' (pushH hs s) → (∀ b, b ≠ 105 → b ≠ 114 → I' b = I b) → (∀ k, k ≠ 21 → k ≠ 22 → I' 105 k = I 105 k) → Q none g I' J) : qC (d + 1) 211 [.ref 105] g I J Q := by
  obtain ⟨h21, hfs, h22, hl, hent⟩ := hH
  have k111 : g.1 111 = some (100, 381) := hsh.k rfl
  have k114 : g.1 114 = some (100, 15240) := hsh.k rfl
  have hlen := pushH_len (s := s) hl
  -- the row that is written
  have fin : ∀ (I0 : qI) (fs' w : Nat), I0 105 21 = nI fs' → fs' < 40 → I0 105 22 = nI (pushH hs s).length → (∀ b, b ≠ 105 → I0 b = I b) → (∀ k, k ≠ 21 → k ≠ 22 → I0 105 k = I 105 k) → w = (fs' + (pushH hs s).length - 1) % 40 → (∀ j, j + 1 < (pushH hs s).length → (fs' + j) % 40 = (fs + (j + (hs.length + 1 - (pushH hs s).length))) % 40) →
      qC d 177 [.ref 111, .int (nI 0), .ref 114, .int (nI (381 * w))] g I0 J (fun v _ I2 _ => v = none ∧ Q none g I2 J) := by
    intro I0 fs' w e1 e2 e3 f1 f2 ew hsl
    refine r_cpRow k111 k114 (by omega) (by omega) (by omega) rfl rfl (fun I2 c1 c2 c3 => ⟨rfl, k I2 fs' ⟨by rw [c1 105 (by omega)]; exact e1, e2, by rw [c1 105 (by omega)]; exact e3, by omega, fun j q hj => ?_⟩ (fun b b1 b2 => by rw [c1 b b2, f1 b b1]) (fun k k1 k2 => by rw [c1 105 (by omega)]; exact f2 k k1 k2)⟩)
    rcases pushH_at hl hj with ⟨g1, rfl⟩ | ⟨g1, g2⟩
    · have ej : (fs' + j) % 40 = w := by rw [ew]; congr 1; omega
      rw [ej]
      refine hS.move hb (fun t ht => ?_)
      rw [c2 t ht, f1 111 (by omega)]
    · have hq := hent _ q g2
      rw [← hsl j g1] at hq
      have hne : (fs' + j) % 40 ≠ w := by omega
      refine hq.move (hbs q (List.mem_of_getElem? g2)) (fun t ht => ?_)
      rw [c3 _ (by omega), f1 114 (by omega)]
  refine w211 hsh ⟨fun h3 => ?_, fun h3 => ?_⟩
  · rw [h22, nI_eq (by omega) (by omega)] at h3
    rw [zu_s, zu_k (by omega), h21, h22, nI_add, rem40 (by omega), nI_add, pk_sub (by omega), rem40 (by omega), pk_mul]
    exact fin _ ((fs + 1) % 40) _ zu_s (by omega) (by rw [zu_k (by omega), h22]; congr 1; omega) (fun b hb => zu_a hb) (fun k k1 k2 => zu_k k1) (by rw [hlen]; congr 1; omega) (fun j hj => by rw [hlen] at hj ⊢; omega)
  · rw [h22, nI_eq (by omega) (by omega)] at h3
    rw [zu_s, zu_k (by omega), h21, h22, nI_add, nI_add, pk_sub (by omega), rem40 (by omega), pk_mul]
    exact fin _ fs _ (by rw [zu_k (by omega)]; exact h21) hfs (by rw [zu_s, hlen]; congr 1; omega) (fun b hb => zu_a hb) (fun k k1 k2 => zu_k k2) (by rw [hlen]; congr 1; omega) (fun j hj => by rw [hlen] at hj ⊢; congr 1; omega)
/-- a STEP tried: done, and kept to be undone, or nothing but its REASON -/
theorem r_tries (hsh : qSh g) (hr : rR I p M) (hH : rH I fs hs) (hS : rSt I 111 0 s) (hok : okST p M s) (hbs : ∀ q, q ∈ hs → bdST q) {pl t : Nat} (hpl : pl < 41) (ht : t < 8) (h107 : I 107 pl = nI t) {ops : List (Nat × Nat)} (hO : rOps I pl ops) (hwf : wf ops)
    (k0 : (xRun p M s.1 ops []).1 ≠ -1 → ∀ I', rSt I' 111 0 s → rH I' fs hs → (∀ b, b ≠ 115 → b ≠ 105 → b ≠ 112 → I' b = I b) → (∀ k, k ≠ 25 → I' 105 k = I 105 k) → Q (some (.int (iI (xRun p M s.1 ops []).1))) g I' J)
    (k : (xRun p M s.1 ops []).1 = -1 → ∀ I' fs', rSt I' 111 0 (dn s t (xRun p M s.1 ops []).2) → rH I' fs' (pushH hs s) → (∀ b, b ≠ 115 → b ≠ 105 → b ≠ 112 → b ≠ 111 → b ≠ 114 → I' b = I b) → (∀ k, k ≠ 25 → k ≠ 21 → k ≠ 22 → I' 105 k = I 105 k) → Q (some (.int (-1))) g I' J) : qC (d + 8) 217 [.ref 105, .int (nI pl)] g I J Q := by
  have k111 : g.1 111 = some (100, 381) := hsh.k rfl
  have k112 : g.1 112 = some (100, 381) := hsh.k rfl
  refine w217 hsh (r_cpRow k111 k112 (by omega) (by omega) (by omega) rfl rfl (fun I1 c1 c2 c3 => ⟨rfl, ?_⟩))
  have hs1 : rSt I1 112 0 s := hS.move hok.bd c2
  have hO1 : rOps I1 pl ops := ⟨by rw [c1 108 (by omega)]; exact hO.1, hO.2.1, fun j o ho => by rw [c1 109 (by omega)]; exact hO.2.2 j o ho⟩
  have hr1 : rR I1 p M := ⟨by rw [c1 105 (by omega)]; exact hr.1, by rw [c1 105 (by omega)]; exact hr.2.1, hr.2.2⟩
  refine r_does hsh hr1 k112 (by omega) (by omega) hs1 hok hpl ht (by rw [c1 107 (by omega)]; exact h107) hO1 hwf (fun h6 I2 f2 => ⟨_, rfl, fun h7 => ?_, fun _ => ?_⟩) (fun h6 I2 a2 f2 => ⟨_, rfl, fun _ => ?_, fun h7 => absurd rfl h7⟩)
  · exact absurd ((iI_neg1 (why_bd ops [])).mp h7) h6
  · refine k0 h6 I2 (hS.keep (by rw [f2.1 111 (by omega) (by omega), c1 111 (by omega)])) (hH.keep (by rw [f2.2 21 (by omega), c1 105 (by omega)]) (by rw [f2.2 22 (by omega), c1 105 (by omega)]) (by rw [f2.1 114 (by omega) (by omega), c1 114 (by omega)])) (fun b b1 b2 b3 => by rw [f2.1 b b1 b2, c1 b b3]) (fun k hk => by rw [f2.2 k hk, c1 105 (by omega)])
  · have oR := xRun_ok hr.2.2.1 hr.2.2.2 hok.1 ops [] hwf.1 hwf.2 (fun f hf => by cases hf) h6
    have hH2 : rH I2 fs hs := hH.keep (by rw [f2.2 21 (by omega), c1 105 (by omega)]) (by rw [f2.2 22 (by omega), c1 105 (by omega)]) (by rw [f2.1 114 (by omega) (by omega) (by omega), c1 114 (by omega)])
    have hS2 : rSt I2 111 0 s := hS.keep (by rw [f2.1 111 (by omega) (by omega) (by omega), c1 111 (by omega)])
    refine r_rem hsh hH2 hS2 hok.bd hbs (fun I3 fs' d1 d2 d3 => ⟨rfl, ?_⟩)
    have a3 : rSt I3 112 0 (dn s t (xRun p M s.1 ops []).2) := a2.keep (d2 112 (by omega) (by omega))
    refine r_cpRow k112 k111 (by omega) (by omega) (by omega) rfl rfl (fun I4 e1 e2 e3 => ⟨rfl, k h6 I4 fs' (a3.move (dn_ok hok ht oR).bd e2) (d1.keep (by rw [e1 105 (by omega)]) (by rw [e1 105 (by omega)]) (e1 114 (by omega))) (fun b b1 b2 b3 b4 b5 => by rw [e1 b b4, d2 b b2 b5, f2.1 b b1 b2 b3, c1 b b3]) (fun k k1 k2 k3 => by rw [e1 105 (by omega), d3 k k2 k3, f2.2 k k1, c1 105 (by omega)])⟩)
end HIST
