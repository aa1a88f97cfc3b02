/-! TEXTS: how they are read. A reading ends at its FAULT (inl), or behind what it read -/
def tb (t : List Nat) (i : Nat) : Nat := t.getD i 0
def skf (t : List Nat) : Nat → Nat → Nat
  | 0, i => i
  | f + 1, i => if tb t i = 32 then skf t f (i + 1) else i
def sk (t : List Nat) (i : Nat) : Nat := skf t (t.length - i) i
def dg (c : Nat) : Prop := 48 ≤ c ∧ c ≤ 57
def nuL (t : List Nat) : Nat → Nat → Nat → Nat × Nat
  | 0, j, v => (j, v)
  | f + 1, j, v => if 48 ≤ tb t j ∧ tb t j ≤ 57 then nuL t f (j + 1) (10 * v + (tb t j - 48)) else (j, v)
def nu (t : List Nat) (lo hi : Nat) (pb : Bool) (i : Nat) : Nat ⊕ (Nat × Nat) :=
  if (nuL t 3 (sk t i) 0).1 = sk t i then .inl (sk t i) else
  if 48 ≤ tb t (nuL t 3 (sk t i) 0).1 ∧ tb t (nuL t 3 (sk t i) 0).1 ≤ 57 then .inl (nuL t 3 (sk t i) 0).1 else
  if (nuL t 3 (sk t i) 0).2 < lo ∨ hi < (nuL t 3 (sk t i) 0).2 ∨ (pb = true ∧ prB (nuL t 3 (sk t i) 0).2 = false) then .inl ((nuL t 3 (sk t i) 0).1 - 1) else .inr (nuL t 3 (sk t i) 0)
def sg (t : List Nat) (c i : Nat) : Nat ⊕ Nat := if tb t (sk t i) = c then .inr (sk t i + 1) else .inl (sk t i)
abbrev Rs : Type := Nat ⊕ (Nat × Nat × List (Nat × Nat))
def brF (t : List Nat) (E : Nat → Nat → Rs) (op : Bool) (i a : Nat) (tl : List (Nat × Nat)) : Rs :=
  if tb t (sk t i) = 40 ∧ op = true then
    match E (sk t i + 1) a with
    | .inl f => .inl f
    | .inr (i1, a1, n1) => match sg t 41 i1 with
      | .inl f => .inl f
      | .inr i2 => .inr (i2, a1, n1 ++ tl)
  else .inl (sk t i)
def cmF (t : List Nat) (E : Nat → Nat → Rs) (op : Bool) (i a : Nat) : Rs :=
  if tb t (sk t i) = 40 ∧ op = true then
    match E (sk t i + 1) a with
    | .inl f => .inl f
    | .inr (i1, a1, n1) => match sg t 44 i1 with
      | .inl f => .inl f
      | .inr i2 => match E i2 a1 with
        | .inl f => .inl f
        | .inr (i3, a3, n3) => match sg t 41 i3 with
          | .inl f => .inl f
          | .inr i4 => .inr (i4, a3, n1 ++ n3 ++ [(15, 0)])
  else .inl (sk t i)
def hL (t : List Nat) (E : Nat → Nat → Rs) : Nat → Nat → Nat → Nat → List (Nat × Nat) → Rs
  | 0, _, i, a, acc => match sg t 41 i with
    | .inl f => .inl f
    | .inr i2 => .inr (i2, a, acc)
  | f + 1, k, i, a, acc => if 2 ≤ k ∧ tb t (sk t i) = 41 then .inr (sk t i + 1, a, acc) else
    match sg t 44 i with
    | .inl f => .inl f
    | .inr i1 => match E i1 a with
      | .inl f => .inl f
      | .inr (i2, a2, n2) => hL t E f (k + 1) i2 a2 (acc ++ n2 ++ [(16, 0)])
def hF (t : List Nat) (E : Nat → Nat → Rs) (op : Bool) (i a : Nat) : Rs :=
  if tb t (sk t i) = 40 ∧ op = true then
    match E (sk t i + 1) a with
    | .inl f => .inl f
    | .inr (i1, a1, n1) => hL t E 5 1 i1 a1 n1
  else .inl (sk t i)
/-- a letter's function: its sign c stood at j -/
def fuF (t : List Nat) (E : Nat → Nat → Rs) (op : Bool) (c j a : Nat) : Rs := match c with
  | 68 => brF t E op (j + 1) a [(8, 0)]
  | 83 => brF t E op (j + 1) a [(9, 0)]
  | 76 => brF t E op (j + 1) a [(10, 0)]
  | 69 => brF t E op (j + 1) a [(11, 0)]
  | 82 => brF t E op (j + 1) a [(12, 0)]
  | 81 => if 50 ≤ tb t (sk t (j + 1)) ∧ tb t (sk t (j + 1)) ≤ 57 then brF t E op (sk t (j + 1) + 1) a [(13, tb t (sk t (j + 1)) - 48)] else .inl (sk t (j + 1))
  | 84 => match nu t 1 24 false (j + 1) with
    | .inl f => .inl f
    | .inr (j2, v) => brF t E op j2 a [(14, v)]
  | 67 => cmF t E op (j + 1) a
  | 72 => hF t E op (j + 1) a
  | _ => .inl j
def atF (t : List Nat) (E : Nat → Nat → Rs) (op : Bool) (i a : Nat) : Rs :=
  if tb t (sk t i) = 40 then brF t E op i a [] else
  if 24 ≤ a then .inl (sk t i) else
  if 48 ≤ tb t (sk t i) ∧ tb t (sk t i) ≤ 57 then (match nu t 0 999 false i with
    | .inl f => .inl f
    | .inr (j2, v) => .inr (j2, a + 1, [(0, v)])) else
  if tb t (sk t i) = 120 then .inr (sk t i + 1, a + 1, [(1, 0)]) else
  if 97 ≤ tb t (sk t i) ∧ tb t (sk t i) ≤ 104 then .inr (sk t i + 1, a + 1, [(2, tb t (sk t i) - 97)]) else
  fuF t E op (tb t (sk t i)) (sk t i) (a + 1)
def poF (t : List Nat) (E : Nat → Nat → Rs) (op : Bool) (i a : Nat) : Rs := match atF t E op i a with
  | .inl f => .inl f
  | .inr (i1, a1, n1) => if tb t (sk t i1) = 94 then (match nu t 0 99 false (sk t i1 + 1) with
      | .inl f => .inl f
      | .inr (j2, v) => .inr (j2, a1, n1 ++ [(7, v)])) else .inr (sk t i1, a1, n1)
def opL (t : List Nat) (S : Nat → Nat → Rs) (c1 w1 c2 w2 : Nat) : Nat → Nat → Nat → List (Nat × Nat) → Rs
  | 0, i, _, _ => .inl i
  | f + 1, i, a, acc => if tb t (sk t i) = c1 ∨ tb t (sk t i) = c2 then (match S (sk t i + 1) a with
      | .inl f => .inl f
      | .inr (i1, a1, n1) => opL t S c1 w1 c2 w2 f i1 a1 (acc ++ n1 ++ [(if tb t (sk t i) = c1 then w1 else w2, 0)])) else .inr (sk t i, a, acc)
def teF (t : List Nat) (E : Nat → Nat → Rs) (op : Bool) (i a : Nat) : Rs := match poF t E op i a with
  | .inl f => .inl f
  | .inr (i1, a1, n1) => opL t (poF t E op) 42 5 47 6 24 i1 a1 n1
def exF (t : List Nat) (E : Nat → Nat → Rs) (op : Bool) (i a : Nat) : Rs := match teF t E op i a with
  | .inl f => .inl f
  | .inr (i1, a1, n1) => opL t (teF t E op) 43 3 45 4 24 i1 a1 n1
/-- an EXPR within which so many brackets more may be -/
def exD (t : List Nat) : Nat → Nat → Nat → Rs
  | 0 => exF t (fun i _ => .inl i) false
  | n + 1 => exF t (exD t n) true
/-! what a reading gives: places go on, few codes, well formed -/
theorem skf_spec (t : List Nat) : ∀ f i : Nat, i ≤ skf t f i ∧ skf t f i ≤ i + f ∧ (skf t f i < i + f → tb t (skf t f i) ≠ 32) ∧ ∀ j, i ≤ j → j < skf t f i → tb t j = 32
  | 0, i => ⟨Nat.le_refl _, Nat.le_refl _, fun h => absurd (show i < i + 0 from h) (by omega), fun j h1 h2 => absurd (show j < i from h2) (by omega)⟩
  | f + 1, i => by
    unfold skf
    by_cases h : tb t i = 32
    · rw [if_pos h]
      obtain ⟨h1, h2, h3, h4⟩ := skf_spec t f (i + 1)
      refine ⟨by omega, by omega, fun h5 => h3 (by omega), fun j a b => ?_⟩
      by_cases hj : j = i
      · rw [hj]; exact h
      · exact h4 j (by omega) b
    · rw [if_neg h]
      exact ⟨Nat.le_refl _, by omega, fun _ => h, fun j a b => absurd b (by omega)⟩
theorem tb_ge {t : List Nat} {i : Nat} (h : t.length ≤ i) : tb t i = 0 := by unfold tb; rw [List.getD_eq_getElem?_getD, List.getElem?_eq_none h]; rfl
theorem sk_le (t : List Nat) (i : Nat) : i ≤ sk t i := (skf_spec t _ i).1
theorem sk_L {t : List Nat} {i : Nat} (h : i ≤ t.length) : sk t i ≤ t.length := by have := (skf_spec t (t.length - i) i).2.1; unfold sk; omega
theorem sk_ne (t : List Nat) (i : Nat) : tb t (sk t i) ≠ 32 := by
  by_cases h : sk t i < t.length
  · exact (skf_spec t (t.length - i) i).2.2.1 (by unfold sk at h; omega)
  · rw [tb_ge (by omega)]; omega
theorem sk_fix {t : List Nat} {i : Nat} (h : tb t i ≠ 32) : sk t i = i := by
  unfold sk
  cases t.length - i with
  | zero => rfl
  | succ f => unfold skf; rw [if_neg h]
theorem sk_sk (t : List Nat) (i : Nat) : sk t (sk t i) = sk t i := sk_fix (sk_ne t i)
theorem tb_lt {t : List Nat} {i : Nat} (h : tb t i ≠ 0) : i < t.length := Nat.lt_of_not_le (fun h2 => h (tb_ge h2))
theorem nuL_spec (t : List Nat) : ∀ (f j v : Nat), j ≤ (nuL t f j v).1 ∧ (nuL t f j v).1 ≤ j + f ∧ (j ≤ t.length → (nuL t f j v).1 ≤ t.length) ∧ (nuL t f j v).2 + 1 ≤ (v + 1) * 10 ^ f
  | 0, j, v => by unfold nuL; exact ⟨Nat.le_refl _, Nat.le_refl _, fun h => h, by show v + 1 ≤ (v + 1) * 10 ^ 0; omega⟩
  | f + 1, j, v => by
    unfold nuL
    split
    · rename_i h
      obtain ⟨h1, h2, h3, h4⟩ := nuL_spec t f (j + 1) (10 * v + (tb t j - 48))
      refine ⟨by omega, by omega, fun _ => h3 (by have := tb_lt (t := t) (i := j) (by omega); omega), Nat.le_trans h4 ?_⟩
      rw [Nat.pow_succ, ← Nat.mul_assoc, Nat.mul_right_comm]
      exact Nat.mul_le_mul_right _ (by omega)
    · refine ⟨Nat.le_refl _, by omega, fun h => h, ?_⟩
      exact Nat.le_mul_of_pos_right _ (Nat.pow_pos (by omega))
def gdN (t : List Nat) (lo hi : Nat) (pb : Bool) (i : Nat) (r : Nat ⊕ (Nat × Nat)) : Prop := match r with
  | .inl f => f ≤ t.length
  | .inr q => i < q.1 ∧ q.1 ≤ t.length ∧ lo ≤ q.2 ∧ q.2 ≤ hi ∧ q.2 ≤ 999 ∧ (pb = true → prB q.2 = true)
theorem nu_ok {t : List Nat} {lo hi : Nat} {pb : Bool} {i : Nat} (hL : i ≤ t.length) : gdN t lo hi pb i (nu t lo hi pb i) := by
  have h1 := sk_le t i
  have h2 := sk_L hL
  obtain ⟨a1, a2, a3, a4⟩ := nuL_spec t 3 (sk t i) 0
  have a3 := a3 h2
  unfold nu
  by_cases c1 : (nuL t 3 (sk t i) 0).1 = sk t i
  · rw [if_pos c1]; exact h2
  · rw [if_neg c1]
    by_cases c2 : 48 ≤ tb t (nuL t 3 (sk t i) 0).1 ∧ tb t (nuL t 3 (sk t i) 0).1 ≤ 57
    · rw [if_pos c2]; exact a3
    · rw [if_neg c2]
      by_cases c3 : (nuL t 3 (sk t i) 0).2 < lo ∨ hi < (nuL t 3 (sk t i) 0).2 ∨ (pb = true ∧ prB (nuL t 3 (sk t i) 0).2 = false)
      · rw [if_pos c3]; show _ - 1 ≤ _; omega
      · rw [if_neg c3]
        refine ⟨by omega, a3, by omega, by omega, by omega, fun hp => ?_⟩
        cases hb : prB (nuL t 3 (sk t i) 0).2 with
        | true => rfl
        | false => exact absurd (Or.inr (Or.inr ⟨hp, hb⟩)) c3
def gdR (t : List Nat) (z i a : Nat) (r : Rs) : Prop := match r with
  | .inl f => f ≤ t.length
  | .inr (i', a', n) => i < i' ∧ i' ≤ t.length ∧ a < a' ∧ a' ≤ 24 ∧ n.length + i ≤ i' ∧ 4 * n.length + z + i + 8 * a ≤ i' + 8 * a' ∧ (∀ o, o ∈ n → wfO o) ∧ ∀ h rest, h + (a' - a) ≤ 24 → hgt (n ++ rest) h = hgt rest (h + 1)
def gdE (t : List Nat) (z : Nat) (E : Nat → Nat → Rs) : Prop := ∀ i a, i ≤ t.length → a ≤ 24 → gdR t z i a (E i a)
def gdS (t : List Nat) (i : Nat) (r : Nat ⊕ Nat) : Prop := match r with
  | .inl f => f ≤ t.length
  | .inr j => i < j ∧ j ≤ t.length
theorem sg_ok {t : List Nat} {c i : Nat} (hi : i ≤ t.length) (hc : c ≠ 0) : gdS t i (sg t c i) := by
  have h1 := sk_le t i
  have h2 := sk_L hi
  unfold sg
  by_cases h : tb t (sk t i) = c
  · rw [if_pos h]
    have := tb_lt (t := t) (i := sk t i) (by omega)
    exact ⟨by omega, by omega⟩
  · rw [if_neg h]; exact h2
theorem hgt_un {w b h : Nat} {rest : List (Nat × Nat)} (h2 : ¬ w ≤ 2) (ht : two w = false) (hh : 1 ≤ h) : hgt ((w, b) :: rest) h = hgt rest h := by
  rw [hgt, if_neg h2, ht]
  dsimp only
  rw [if_pos hh]
theorem hgt_bi {w b h : Nat} {rest : List (Nat × Nat)} (h2 : ¬ w ≤ 2) (ht : two w = true) (hh : 2 ≤ h) : hgt ((w, b) :: rest) h = hgt rest (h - 1) := by
  rw [hgt, if_neg h2, ht]
  dsimp only
  rw [if_pos hh]
theorem hgt_le {w b h : Nat} {rest : List (Nat × Nat)} (h2 : w ≤ 2) (hh : h < 24) : hgt ((w, b) :: rest) h = hgt rest (h + 1) := by
  rw [hgt, if_pos h2, if_pos hh]
/-- brackets, with a code of one behind them or none; the function's own letter has been read -/
def gdB (t : List Nat) (z i a : Nat) (r : Rs) : Prop := match r with
  | .inl f => f ≤ t.length
  | .inr (i', a', n) => i + 2 ≤ i' ∧ i' ≤ t.length ∧ a < a' ∧ a' ≤ 24 ∧ n.length + i + 2 ≤ i' + z ∧ 4 * n.length + 5 + i + 8 * a ≤ i' + 8 * a' + 4 * z ∧ (∀ o, o ∈ n → wfO o) ∧ ∀ h rest, h + (a' - a) ≤ 24 → hgt (n ++ rest) h = hgt rest (h + 1)
theorem br_ok {t : List Nat} {E : Nat → Nat → Rs} {op : Bool} (hE : gdE t 3 E) {i a : Nat} (hi : i ≤ t.length) (ha : a ≤ 24) {tl : List (Nat × Nat)} (ht : tl = [] ∨ ∃ w b, tl = [(w, b)] ∧ wfO (w, b) ∧ 7 ≤ w ∧ w ≤ 14) : gdB t tl.length i a (brF t E op i a tl) := by
  have h1 := sk_le t i
  have h2 := sk_L hi
  unfold brF
  by_cases hc : tb t (sk t i) = 40 ∧ op = true
  · rw [if_pos hc]
    have hlt := tb_lt (t := t) (i := sk t i) (by omega)
    have hg := hE (sk t i + 1) a (by omega) ha
    cases hr : E (sk t i + 1) a with
    | inl f => rw [hr] at hg; exact hg
    | inr q =>
      obtain ⟨i1, a1, n1⟩ := q
      rw [hr] at hg
      obtain ⟨g1, g2, g3, g4, g5, g6, g7, g8⟩ := hg
      dsimp only
      have hsg := sg_ok (t := t) (c := 41) (i := i1) g2 (by omega)
      cases hs : sg t 41 i1 with
      | inl f => rw [hs] at hsg; exact hsg
      | inr i2 =>
        rw [hs] at hsg
        have hsg : i1 < i2 ∧ i2 ≤ t.length := hsg
        refine ⟨by omega, hsg.2, g3, g4, by rw [List.length_append]; omega, by rw [List.length_append]; omega, fun o ho => ?_, fun h rest hh => ?_⟩
        · rcases List.mem_append.mp ho with h9 | h9
          · exact g7 o h9
          · rcases ht with e | ⟨w, b, e, e2, _⟩
            · rw [e] at h9; cases h9
            · rw [e] at h9; rw [List.mem_singleton.mp h9]; exact e2
        · rw [List.append_assoc, g8 h _ hh]
          rcases ht with e | ⟨w, b, e, e2, e3, e4⟩
          · rw [e]; rfl
          · rw [e]
            have htw : two w = false := by
              cases htw : two w with
              | false => rfl
              | true => rcases two_of (show w ≤ 16 by omega) htw with h | h | h | h | h | h <;> omega
            exact hgt_un (by omega) htw (by omega)
  · rw [if_neg hc]; exact h2
theorem wf15 : wfO (15, 0) := ⟨by decide, by decide, fun h => (by cases h), fun h => (by cases h), fun h => (by cases h)⟩
theorem wf16 : wfO (16, 0) := ⟨by decide, by decide, fun h => (by cases h), fun h => (by cases h), fun h => (by cases h)⟩
theorem cm_ok {t : List Nat} {E : Nat → Nat → Rs} {op : Bool} (hE : gdE t 3 E) {i a : Nat} (hi : i ≤ t.length) (ha : a ≤ 24) : gdB t 1 i a (cmF t E op i a) := by
  have h1 := sk_le t i
  have h2 := sk_L hi
  unfold cmF
  by_cases hc : tb t (sk t i) = 40 ∧ op = true
  · rw [if_pos hc]
    have hlt := tb_lt (t := t) (i := sk t i) (by omega)
    have hg := hE (sk t i + 1) a (by omega) ha
    cases hr : E (sk t i + 1) a with
    | inl f => rw [hr] at hg; exact hg
    | inr q =>
      obtain ⟨i1, a1, n1⟩ := q
      rw [hr] at hg
      obtain ⟨g1, g2, g3, g4, g5, g6, g7, g8⟩ := hg
      dsimp only
      have hsg := sg_ok (t := t) (c := 44) (i := i1) g2 (by omega)
      cases hs : sg t 44 i1 with
      | inl f => rw [hs] at hsg; exact hsg
      | inr i2 =>
        rw [hs] at hsg
        have hsg : i1 < i2 ∧ i2 ≤ t.length := hsg
        dsimp only
        have hg3 := hE i2 a1 hsg.2 g4
        cases hr3 : E i2 a1 with
        | inl f => rw [hr3] at hg3; exact hg3
        | inr q =>
          obtain ⟨i3, a3, n3⟩ := q
          rw [hr3] at hg3
          obtain ⟨k1, k2, k3, k4, k5, k6, k7, k8⟩ := hg3
          dsimp only
          have hsg4 := sg_ok (t := t) (c := 41) (i := i3) k2 (by omega)
          cases hs4 : sg t 41 i3 with
          | inl f => rw [hs4] at hsg4; exact hsg4
          | inr i4 =>
            rw [hs4] at hsg4
            have hsg4 : i3 < i4 ∧ i4 ≤ t.length := hsg4
            refine ⟨by omega, hsg4.2, by omega, k4, by simp only [List.length_append, List.length_cons, List.length_nil]; omega, by simp only [List.length_append, List.length_cons, List.length_nil]; omega, fun o ho => ?_, fun h rest hh => ?_⟩
            · rcases List.mem_append.mp ho with h9 | h9
              · rcases List.mem_append.mp h9 with h9 | h9
                · exact g7 o h9
                · exact k7 o h9
              · rw [List.mem_singleton.mp h9]; exact wf15
            · rw [List.append_assoc, List.append_assoc, g8 h _ (by omega), k8 (h + 1) _ (by omega)]
              exact hgt_bi (by omega) rfl (by omega)
  · rw [if_neg hc]; exact h2
/-- from a first EXPR on: i0, a0 where that began -/
theorem hL_ok {t : List Nat} {E : Nat → Nat → Rs} (hE : gdE t 3 E) {i0 a0 : Nat} : ∀ (f k i a : Nat) (acc : List (Nat × Nat)), i ≤ t.length → i0 < i → a ≤ 24 → a0 < a → acc.length + i0 ≤ i → 4 * acc.length + 3 + i0 + 8 * a0 ≤ i + 8 * a → (∀ o, o ∈ acc → wfO o) → (∀ h rest, h + (a - a0) ≤ 24 → hgt (acc ++ rest) h = hgt rest (h + 1)) → gdR t 4 i0 a0 (hL t E f k i a acc)
  | 0, k, i, a, acc, h1, h2, h3, h4, h5, h6, h7, h8 => by
    unfold hL
    have hsg := sg_ok (t := t) (c := 41) (i := i) h1 (by omega)
    cases hs : sg t 41 i with
    | inl f => rw [hs] at hsg; exact hsg
    | inr i2 =>
      rw [hs] at hsg
      have hsg : i < i2 ∧ i2 ≤ t.length := hsg
      exact ⟨by omega, hsg.2, h4, h3, by omega, by omega, h7, h8⟩
  | f + 1, k, i, a, acc, h1, h2, h3, h4, h5, h6, h7, h8 => by
    have q1 := sk_le t i
    have q2 := sk_L h1
    unfold hL
    by_cases hc : 2 ≤ k ∧ tb t (sk t i) = 41
    · rw [if_pos hc]
      have := tb_lt (t := t) (i := sk t i) (by omega)
      exact ⟨by omega, by omega, h4, h3, by omega, by omega, h7, h8⟩
    · rw [if_neg hc]
      have hsg := sg_ok (t := t) (c := 44) (i := i) h1 (by omega)
      cases hs : sg t 44 i with
      | inl f => rw [hs] at hsg; exact hsg
      | inr i1 =>
        rw [hs] at hsg
        have hsg : i < i1 ∧ i1 ≤ t.length := hsg
        dsimp only
        have hg3 := hE i1 a hsg.2 h3
        cases hr3 : E i1 a with
        | inl f => rw [hr3] at hg3; exact hg3
        | inr q =>
          obtain ⟨i3, a3, n3⟩ := q
          rw [hr3] at hg3
          obtain ⟨k1, k2, k3, k4, k5, k6, k7, k8⟩ := hg3
          dsimp only
          refine hL_ok hE f (k + 1) i3 a3 _ k2 (by omega) k4 (by omega) (by simp only [List.length_append, List.length_cons, List.length_nil]; omega) (by simp only [List.length_append, List.length_cons, List.length_nil]; omega) (fun o ho => ?_) (fun h rest hh => ?_)
          · rcases List.mem_append.mp ho with h9 | h9
            · rcases List.mem_append.mp h9 with h9 | h9
              · exact h7 o h9
              · exact k7 o h9
            · rw [List.mem_singleton.mp h9]; exact wf16
          · rw [List.append_assoc, List.append_assoc, h8 h _ (by omega), k8 (h + 1) _ (by omega)]
            exact hgt_bi (by omega) rfl (by omega)
theorem hF_ok {t : List Nat} {E : Nat → Nat → Rs} {op : Bool} (hE : gdE t 3 E) {i a : Nat} (hi : i ≤ t.length) (ha : a ≤ 24) : gdR t 5 i a (hF t E op i a) := by
  have h1 := sk_le t i
  have h2 := sk_L hi
  unfold hF
  by_cases hc : tb t (sk t i) = 40 ∧ op = true
  · rw [if_pos hc]
    have hlt := tb_lt (t := t) (i := sk t i) (by omega)
    have hg := hE (sk t i + 1) a (by omega) ha
    cases hr : E (sk t i + 1) a with
    | inl f => rw [hr] at hg; exact hg
    | inr q =>
      obtain ⟨i1, a1, n1⟩ := q
      rw [hr] at hg
      obtain ⟨g1, g2, g3, g4, g5, g6, g7, g8⟩ := hg
      dsimp only
      have h9 := hL_ok hE (i0 := sk t i + 1) (a0 := a) 5 1 i1 a1 n1 g2 g1 g4 g3 g5 (by omega) g7 g8
      cases hr9 : hL t E 5 1 i1 a1 n1 with
      | inl f => rw [hr9] at h9; exact h9
      | inr q =>
        obtain ⟨i9, a9, n9⟩ := q
        rw [hr9] at h9
        obtain ⟨k1, k2, k3, k4, k5, k6, k7, k8⟩ := h9
        exact ⟨by omega, k2, k3, k4, by omega, by omega, k7, k8⟩
  · rw [if_neg hc]; exact h2
/-- brackets behind a function's letter: its own ATOM counts -/
theorem gdB.fn {t : List Nat} {z i a j : Nat} {r : Rs} (h : gdB t z i (a + 1) r) (hz : z ≤ 1) (hj : j < i) : gdR t 5 j a r := by
  cases r with
  | inl f => exact h
  | inr q =>
    obtain ⟨i1, a1, n1⟩ := q
    obtain ⟨g1, g2, g3, g4, g5, g6, g7, g8⟩ := h
    exact ⟨by omega, g2, by omega, g4, by omega, by omega, g7, fun h rest hh => g8 h rest (by omega)⟩
theorem gdR.fn {t : List Nat} {i a j : Nat} {r : Rs} (h : gdR t 5 i (a + 1) r) (hj : j < i) : gdR t 5 j a r := by
  cases r with
  | inl f => exact h
  | inr q =>
    obtain ⟨i1, a1, n1⟩ := q
    obtain ⟨g1, g2, g3, g4, g5, g6, g7, g8⟩ := h
    exact ⟨by omega, g2, by omega, g4, by omega, by omega, g7, fun h rest hh => g8 h rest (by omega)⟩
theorem fu_ok {t : List Nat} {E : Nat → Nat → Rs} {op : Bool} (hE : gdE t 3 E) {i a j c : Nat} (hij : i ≤ j) (hj : j < t.length) (ha : a < 24) : gdR t 5 i a (fuF t E op c j (a + 1)) := by
  have nul : ∀ w, 7 ≤ w → w ≤ 12 → gdR t 5 i a (brF t E op (j + 1) (a + 1) [(w, 0)]) := fun w h1 h2 => (br_ok hE (by omega) (by omega) (Or.inr ⟨w, 0, rfl, ⟨by show w ≤ 16; omega, Nat.le_of_ble_eq_true rfl, fun h => (by dsimp only at h; omega), fun h => (by dsimp only at h; omega), fun h => (by dsimp only at h; omega)⟩, h1, by omega⟩)).fn (Nat.le_refl _) (by omega)
  unfold fuF
  split
  · exact nul 8 (by omega) (by omega)
  · exact nul 9 (by omega) (by omega)
  · exact nul 10 (by omega) (by omega)
  · exact nul 11 (by omega) (by omega)
  · exact nul 12 (by omega) (by omega)
  · have q1 := sk_le t (j + 1)
    have q2 := sk_L (t := t) (i := j + 1) (by omega)
    by_cases hc : 50 ≤ tb t (sk t (j + 1)) ∧ tb t (sk t (j + 1)) ≤ 57
    · rw [if_pos hc]
      have := tb_lt (t := t) (i := sk t (j + 1)) (by omega)
      exact (br_ok hE (by omega) (by omega) (Or.inr ⟨13, _, rfl, ⟨Nat.le_of_ble_eq_true rfl, by show _ - 48 ≤ 999; omega, fun h => (by cases h), fun _ => by dsimp only; omega, fun h => (by cases h)⟩, by omega, by omega⟩)).fn (Nat.le_refl _) (by omega)
    · rw [if_neg hc]; exact q2
  · have hn := nu_ok (t := t) (lo := 1) (hi := 24) (pb := false) (i := j + 1) (by omega)
    cases hr : nu t 1 24 false (j + 1) with
    | inl f => rw [hr] at hn; exact hn
    | inr q =>
      obtain ⟨j2, v⟩ := q
      rw [hr] at hn
      obtain ⟨m1, m2, m3, m4, m5, m6⟩ := hn
      dsimp only at m1 m2 m3 m4 m5 ⊢
      exact (br_ok hE m2 (by omega) (Or.inr ⟨14, v, rfl, ⟨Nat.le_of_ble_eq_true rfl, m5, fun h => (by cases h), fun h => (by cases h), fun _ => m3⟩, by omega, by omega⟩)).fn (Nat.le_refl _) (by omega)
  · exact (cm_ok hE (by omega) (by omega)).fn (Nat.le_refl _) (by omega)
  · exact (hF_ok hE (by omega) (by omega)).fn (by omega)
  · show j ≤ _; omega
theorem at_ok {t : List Nat} {E : Nat → Nat → Rs} {op : Bool} (hE : gdE t 3 E) : gdE t 5 (atF t E op) := by
  intro i a hi ha
  have h1 := sk_le t i
  have h2 := sk_L hi
  unfold atF
  by_cases c1 : tb t (sk t i) = 40
  · rw [if_pos c1]
    have h := br_ok (op := op) hE hi ha (Or.inl rfl)
    cases hr : brF t E op i a [] with
    | inl f => rw [hr] at h; exact h
    | inr q =>
      obtain ⟨i1, a1, n1⟩ := q
      rw [hr] at h
      obtain ⟨g1, g2, g3, g4, g5, g6, g7, g8⟩ := h
      simp only [List.length_nil] at g5 g6
      exact ⟨by omega, g2, by omega, g4, by omega, by omega, g7, g8⟩
  · rw [if_neg c1]
    by_cases c2 : 24 ≤ a
    · rw [if_pos c2]; exact h2
    · rw [if_neg c2]
      have leaf : ∀ j o, i < j → j ≤ t.length → wfO o → o.1 ≤ 2 → gdR t 5 i a (.inr (j, a + 1, [o])) := fun j o q1 q2 q3 q4 => ⟨q1, q2, by omega, by omega, by simp only [List.length_cons, List.length_nil]; omega, by simp only [List.length_cons, List.length_nil]; omega, fun o' ho => by rw [List.mem_singleton.mp ho]; exact q3, fun h rest hh => hgt_le q4 (by omega)⟩
      by_cases c3 : 48 ≤ tb t (sk t i) ∧ tb t (sk t i) ≤ 57
      · rw [if_pos c3]
        have hn := nu_ok (t := t) (lo := 0) (hi := 999) (pb := false) (i := i) hi
        cases hr : nu t 0 999 false i with
        | inl f => rw [hr] at hn; exact hn
        | inr q =>
          obtain ⟨j2, v⟩ := q
          rw [hr] at hn
          obtain ⟨m1, m2, m3, m4, m5, m6⟩ := hn
          exact leaf j2 (0, v) m1 m2 ⟨Nat.le_of_ble_eq_true rfl, m5, fun h => (by cases h), fun h => (by cases h), fun h => (by cases h)⟩ (Nat.le_of_ble_eq_true rfl)
      · rw [if_neg c3]
        by_cases c4 : tb t (sk t i) = 120
        · rw [if_pos c4]
          have := tb_lt (t := t) (i := sk t i) (by omega)
          exact leaf _ (1, 0) (by omega) (by omega) ⟨by decide, by decide, fun h => (by cases h), fun h => (by cases h), fun h => (by cases h)⟩ (by decide)
        · rw [if_neg c4]
          by_cases c5 : 97 ≤ tb t (sk t i) ∧ tb t (sk t i) ≤ 104
          · rw [if_pos c5]
            have := tb_lt (t := t) (i := sk t i) (by omega)
            exact leaf _ (2, _) (by omega) (by omega) ⟨Nat.le_of_ble_eq_true rfl, by show _ - 97 ≤ 999; omega, fun _ => by show _ - 97 < 8; omega, fun h => (by cases h), fun h => (by cases h)⟩ (Nat.le_of_ble_eq_true rfl)
          · rw [if_neg c5]
            by_cases hlt : sk t i < t.length
            · exact fu_ok hE h1 hlt (by omega)
            · rw [tb_ge (by omega)]
              exact h2
theorem po_ok {t : List Nat} {E : Nat → Nat → Rs} {op : Bool} (hE : gdE t 3 E) : gdE t 3 (poF t E op) := by
  intro i a hi ha
  have h := at_ok (op := op) hE i a hi ha
  unfold poF
  cases hr : atF t E op i a with
  | inl f => rw [hr] at h; exact h
  | inr q =>
    obtain ⟨i1, a1, n1⟩ := q
    rw [hr] at h
    obtain ⟨g1, g2, g3, g4, g5, g6, g7, g8⟩ := h
    have h1 := sk_le t i1
    have h2 := sk_L g2
    dsimp only
    by_cases c1 : tb t (sk t i1) = 94
    · rw [if_pos c1]
      have := tb_lt (t := t) (i := sk t i1) (by omega)
      have hn := nu_ok (t := t) (lo := 0) (hi := 99) (pb := false) (i := sk t i1 + 1) (by omega)
      cases hr2 : nu t 0 99 false (sk t i1 + 1) with
      | inl f => rw [hr2] at hn; exact hn
      | inr q =>
        obtain ⟨j2, v⟩ := q
        rw [hr2] at hn
        obtain ⟨m1, m2, m3, m4, m5, m6⟩ := hn
        dsimp only at m1 m2 m3 m4 m5
        refine ⟨by omega, m2, g3, g4, by simp only [List.length_append, List.length_cons, List.length_nil]; omega, by simp only [List.length_append, List.length_cons, List.length_nil]; omega, fun o ho => ?_, fun h rest hh => ?_⟩
        · rcases List.mem_append.mp ho with h9 | h9
          · exact g7 o h9
          · rw [List.mem_singleton.mp h9]; exact ⟨Nat.le_of_ble_eq_true rfl, m5, fun h => (by cases h), fun h => (by cases h), fun h => (by cases h)⟩
        · rw [List.append_assoc, g8 h _ hh]
          exact hgt_un (by omega) rfl (by omega)
    · rw [if_neg c1]
      exact ⟨by omega, h2, g3, g4, by omega, by omega, g7, g8⟩
theorem opL_ok {t : List Nat} {S : Nat → Nat → Rs} (hS : gdE t 3 S) {c1 w1 c2 w2 : Nat} (hc : c1 ≠ 0 ∧ c2 ≠ 0) (hw : (w1 = 3 ∧ w2 = 4) ∨ (w1 = 5 ∧ w2 = 6)) {i0 a0 : Nat} : ∀ (f i a : Nat) (acc : List (Nat × Nat)), i ≤ t.length → i0 < i → a ≤ 24 → a0 < a → acc.length + i0 ≤ i → 4 * acc.length + 3 + i0 + 8 * a0 ≤ i + 8 * a → (∀ o, o ∈ acc → wfO o) → (∀ h rest, h + (a - a0) ≤ 24 → hgt (acc ++ rest) h = hgt rest (h + 1)) → gdR t 3 i0 a0 (opL t S c1 w1 c2 w2 f i a acc)
  | 0, i, a, acc, h1, h2, h3, h4, h5, h6, h7, h8 => h1
  | f + 1, i, a, acc, h1, h2, h3, h4, h5, h6, h7, h8 => by
    have q1 := sk_le t i
    have q2 := sk_L h1
    unfold opL
    by_cases hcc : tb t (sk t i) = c1 ∨ tb t (sk t i) = c2
    · rw [if_pos hcc]
      have := tb_lt (t := t) (i := sk t i) (by omega)
      have hg3 := hS (sk t i + 1) a (by omega) h3
      cases hr3 : S (sk t i + 1) a with
      | inl f => rw [hr3] at hg3; exact hg3
      | inr q =>
        obtain ⟨i3, a3, n3⟩ := q
        rw [hr3] at hg3
        obtain ⟨k1, k2, k3, k4, k5, k6, k7, k8⟩ := hg3
        dsimp only
        generalize hww : (if tb t (sk t i) = c1 then w1 else w2) = w
        have hw3 : 3 ≤ w ∧ w ≤ 6 := by
          rw [← hww]
          split <;> omega
        have htw : two w = true := by
          unfold two
          rw [Nat.ble_eq_true_of_le hw3.1, Nat.ble_eq_true_of_le hw3.2]
          rfl
        refine opL_ok hS hc hw f i3 a3 _ k2 (by omega) k4 (by omega) (by simp only [List.length_append, List.length_cons, List.length_nil]; omega) (by simp only [List.length_append, List.length_cons, List.length_nil]; omega) (fun o ho => ?_) (fun h rest hh => ?_)
        · rcases List.mem_append.mp ho with h9 | h9
          · rcases List.mem_append.mp h9 with h9 | h9
            · exact h7 o h9
            · exact k7 o h9
          · rw [List.mem_singleton.mp h9]
            exact ⟨by show w ≤ 16; omega, Nat.le_of_ble_eq_true rfl, fun h => (by dsimp only at h; omega), fun h => (by dsimp only at h; omega), fun h => (by dsimp only at h; omega)⟩
        · rw [List.append_assoc, List.append_assoc, h8 h _ (by omega), k8 (h + 1) _ (by omega)]
          exact hgt_bi (by omega) htw (by omega)
    · rw [if_neg hcc]
      exact ⟨by omega, q2, h4, h3, by omega, by omega, h7, h8⟩
theorem te_ok {t : List Nat} {E : Nat → Nat → Rs} {op : Bool} (hE : gdE t 3 E) : gdE t 3 (teF t E op) := by
  intro i a hi ha
  have h := po_ok (op := op) hE i a hi ha
  unfold teF
  cases hr : poF t E op i a with
  | inl f => rw [hr] at h; exact h
  | inr q =>
    obtain ⟨i1, a1, n1⟩ := q
    rw [hr] at h
    obtain ⟨g1, g2, g3, g4, g5, g6, g7, g8⟩ := h
    exact opL_ok (po_ok hE) (by omega) (by omega) 24 i1 a1 n1 g2 g1 g4 g3 g5 (by omega) g7 g8
theorem ex_ok {t : List Nat} {E : Nat → Nat → Rs} {op : Bool} (hE : gdE t 3 E) : gdE t 3 (exF t E op) := by
  intro i a hi ha
  have h := te_ok (op := op) hE i a hi ha
  unfold exF
  cases hr : teF t E op i a with
  | inl f => rw [hr] at h; exact h
  | inr q =>
    obtain ⟨i1, a1, n1⟩ := q
    rw [hr] at h
    obtain ⟨g1, g2, g3, g4, g5, g6, g7, g8⟩ := h
    exact opL_ok (te_ok hE) (by omega) (by omega) 24 i1 a1 n1 g2 g1 g4 g3 g5 (by omega) g7 g8
theorem exD_ok (t : List Nat) : ∀ n, gdE t 3 (exD t n)
  | 0 => ex_ok (fun i a hi _ => hi)
  | n + 1 => ex_ok (exD_ok t n)
