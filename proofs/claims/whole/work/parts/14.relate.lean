/-! the abstract machine's heap and locals beside the machine's own -/
abbrev qX : Type := va_G × (Nat → ClassId) × Nat × (Nat → Nat) × Heap × Nat × (Nat → Int32)
abbrev xD (X : qX) : va_G := X.1
abbrev xC (X : qX) : Nat → ClassId := X.2.1
abbrev xB (X : qX) : Nat := X.2.2.1
abbrev xS (X : qX) : Nat → Nat := X.2.2.2.1
abbrev xH (X : qX) : Heap := X.2.2.2.2.1
abbrev xL (X : qX) : Nat := X.2.2.2.2.2.1
abbrev xV (X : qX) : Nat → Int32 := X.2.2.2.2.2.2
def qrho (X : qX) (k : Nat) : Nat := if k < 4 then xS X k else xB X + (k - 4)
def qv (X : qX) (v : Value) : Value := match v with
  | .ref a => .ref (qrho X a)
  | v => v
theorem qrho_ge {X : qX} {a : Nat} (h : 4 ≤ a) : qrho X a = xB X + (a - 4) := if_neg (Nat.not_lt.mpr h)
theorem qrho_le {X : qX} {a : Nat} (h : 4 ≤ a) : xB X ≤ qrho X a := by rw [qrho_ge h]; exact Nat.le_add_right _ _
theorem qrho_inj {X : qX} {a b : Nat} (ha : 4 ≤ a) (hb : 4 ≤ b) (h : qrho X a = qrho X b) : a = b := by
  rw [qrho_ge ha, qrho_ge hb] at h
  omega
theorem qv_cat (X : qX) (v : Value) : (qv X v).category = v.category := by cases v <;> rfl
theorem qcat_eq (v : Value) : qcat v = v.category := by cases v <;> rfl
theorem qv_rf (X : qX) (o : Option Nat) : qv X (va_rf o) = va_rf (o.map (qrho X)) := by cases o <;> rfl
theorem qfs_map (X : qX) : ∀ st : List Value, ((st.map (qv X)).map fun v => v.category).sum = qfs st
  | [] => rfl
  | v :: r => by
    simp only [List.map_cons, List.sum_cons, qfs]
    rw [qv_cat, qcat_eq, qfs_map X r]
/-- an object's field, a cell -/
def qfv (X : qX) (g : qG) (I : qI) (J : qJ) (c a k : Nat) : Value := match qFt c k with
  | 1 => .long (J a k)
  | 2 => va_rf ((g.2.1 a k).map (qrho X))
  | _ => .int (I a k)
def qca (X : qX) (g : qG) (I : qI) (J : qJ) (a k n : Nat) : vp_A := (n, match k with
  | 102 => .inr (.inl (J a))
  | 103 => .inr (.inr (.inr (.inr (fun j => (g.2.1 a j).map (qrho X)))))
  | 104 => .inr (.inr (.inr (.inr (fun j => (g.2.1 a j).map (qrho X)))))
  | 105 => .inr (.inr (.inr (.inr (fun j => (g.2.1 a j).map (qrho X)))))
  | _ => .inl (I a))
def qce (X : qX) (g : qG) (I : qI) (J : qJ) (a k n : Nat) : va_E := if k < 100 then .inr (k, (List.range n).map (qfv X g I J k a)) else .inl (xC X k, qca X g I J a k n)
def qnf (c : Nat) : Nat := (qnth qCl c (RL, TX0, 0)).2.2
def qok (X : qX) (g : qG) (I : qI) (J : qJ) (H : Heap) (a k n : Nat) : Prop :=
  (a = 0 ∧ k = 110 ∧ n = xL X ∧ ∀ j, j < n → I 0 j = xV X j) ∨ (4 ≤ a ∧ a < g.2.2.1 ∧ ((k < 11 ∧ n = qnf k) ∨ (100 ≤ k ∧ k ≤ 105 ∧ n < 2 ^ 31)) ∧ va_at (xD X) qCl (qrho X a, qce X g I J a k n) H)
def qHp (X : qX) (g : qG) (I : qI) (J : qJ) (H : Heap) : Prop :=
  (4 ≤ g.2.2.1 ∧ H.size + 4 = xB X + g.2.2.1) ∧ (∀ q, q < xB X → H[q]? = (xH X)[q]?) ∧ ∀ a k n, g.1 a = some (k, n) → qok X g I J H a k n
/-- locals -/
def qisp (v : Value) : Bool := match v with
  | .retAddr _ => true
  | _ => false
def qLs (X : qX) (n : Nat) (lv : List Value) (ls : Array Slot) : Prop := ∃ l, lv_has ls n l ∧ lv.length = n ∧ ∀ i w, lv[i]? = some w → qisp w = false → (i, qv X w) ∈ l
theorem qLs.get {X : qX} {n : Nat} {lv : List Value} {ls : Array Slot} (h : qLs X n lv ls) {i : Nat} {w : Value} (hw : lv[i]? = some w) (hp : qisp w = false) : ls[i]? = some (.val (qv X w)) := by
  obtain ⟨l, h1, -, h3⟩ := h
  exact h1.2.2 _ (h3 i w hw hp)
theorem qLs.size {X : qX} {n : Nat} {lv : List Value} {ls : Array Slot} (h : qLs X n lv ls) : ls.size = n := h.choose_spec.1.1
theorem qld_inv {lv : List Value} {i t : Nat} {v : Value} (h : qld lv i t = some v) : lv[i]? = some v ∧ qisp v = false ∧ (t = 0 → ∃ x, v = .int x) ∧ (t = 1 → ∃ x, v = .long x) ∧ (t = 2 → (∃ x, v = .ref x) ∨ v = .null) := by
  unfold qld at h
  split at h
  · rename_i x hx
    split at h
    · cases h
      exact ⟨hx, rfl, fun _ => ⟨x, rfl⟩, fun h => by omega, fun h => by omega⟩
    · cases h
  · rename_i x hx
    split at h
    · cases h
      exact ⟨hx, rfl, fun h => by omega, fun _ => ⟨x, rfl⟩, fun h => by omega⟩
    · cases h
  · rename_i x hx
    split at h
    · cases h
      exact ⟨hx, rfl, fun h => by omega, fun h => by omega, fun _ => Or.inl ⟨x, rfl⟩⟩
    · cases h
  · rename_i hx
    split at h
    · cases h
      exact ⟨hx, rfl, fun h => by omega, fun h => by omega, fun _ => Or.inr rfl⟩
    · cases h
  · cases h
theorem qst1_inv {lv lv1 : List Value} {i : Nat} {v : Value} (h : qst1 lv i v = some lv1) : i < lv.length ∧ lv1 = lv.set i v ∧ ∀ j w, j + 1 = i → lv[j]? = some w → qcat w = 1 := by
  unfold qst1 at h
  split at h
  · split at h
    · cases h
    · cases h
      exact ⟨Nat.succ_pos _, rfl, fun j w hj => by omega⟩
  · rename_i j
    split at h
    · rename_i w w2 hw hw2
      split at h
      · rename_i hc
        cases h
        refine ⟨(List.getElem?_eq_some_iff.mp hw2).1, rfl, fun j2 w3 hj hw3 => ?_⟩
        have : j2 = j := by omega
        subst this
        rw [hw] at hw3
        cases hw3
        exact hc
      · cases h
    · cases h
theorem qLs.st1 {X : qX} {n : Nat} {lv lv1 : List Value} {ls : Array Slot} {i : Nat} {v : Value} (h : qLs X n lv ls) (hs : qst1 lv i v = some lv1) : ∃ l, lv_has ls n l ∧ i < n ∧ ∀ ls', lv_has ls' n ((i, qv X v) :: l.filter (fun q => !(q.1 == i) && !(q.1 + 1 == i && q.2.category == 2))) → qLs X n lv1 ls' := by
  obtain ⟨l, h1, h2, h3⟩ := h
  obtain ⟨hi, rfl, hc⟩ := qst1_inv hs
  refine ⟨l, h1, by rw [← h2]; exact hi, fun ls' h' => ⟨_, h', by rw [List.length_set]; exact h2, fun j w hw hp => ?_⟩⟩
  by_cases hj : j = i
  · subst hj
    rw [List.getElem?_set_self hi] at hw
    cases hw
    exact List.mem_cons_self
  · rw [List.getElem?_set_ne (Ne.symm hj)] at hw
    refine List.mem_cons_of_mem _ (List.mem_filter.mpr ⟨h3 j w hw hp, ?_⟩)
    by_cases h4 : j + 1 = i
    · have := hc j w h4 hw
      rw [qcat_eq] at this
      simp [hj, qv_cat, this]
    · simp [hj, h4]
theorem qLs.st2 {X : qX} {n : Nat} {lv lv1 : List Value} {ls : Array Slot} {i : Nat} {v : Value} (h : qLs X n lv ls) (hs : qst2 lv i v = some lv1) : ∃ l, lv_has ls n l ∧ i + 1 < n ∧ ∀ ls', lv_has ls' n ((i, qv X v) :: l.filter (fun q => !(q.1 == i) && (!(q.1 == i + 1) && !(q.1 + 1 == i && q.2.category == 2)))) → qLs X n lv1 ls' := by
  obtain ⟨l, h1, h2, h3⟩ := h
  unfold qst2 at hs
  split at hs
  · rename_i w9 hw9
    have hi1 : i + 1 < lv.length := (List.getElem?_eq_some_iff.mp hw9).1
    cases h5 : qst1 lv i v with
    | none => rw [h5] at hs; cases hs
    | some l5 =>
      rw [h5] at hs
      cases hs
      obtain ⟨hi, rfl, hc⟩ := qst1_inv h5
      refine ⟨l, h1, by rw [← h2]; exact hi1, fun ls' h' => ⟨_, h', by rw [List.length_set, List.length_set]; exact h2, fun j w hw hp => ?_⟩⟩
      by_cases hj1 : j = i + 1
      · subst hj1
        rw [List.getElem?_set_self (by rw [List.length_set]; exact hi1)] at hw
        cases hw
        cases hp
      · rw [List.getElem?_set_ne (Ne.symm hj1)] at hw
        by_cases hj : j = i
        · subst hj
          rw [List.getElem?_set_self hi] at hw
          cases hw
          exact List.mem_cons_self
        · rw [List.getElem?_set_ne (Ne.symm hj)] at hw
          refine List.mem_cons_of_mem _ (List.mem_filter.mpr ⟨h3 j w hw hp, ?_⟩)
          by_cases h4 : j + 1 = i
          · have := hc j w h4 hw
            rw [qcat_eq] at this
            simp [hj, hj1, qv_cat, this]
          · simp [hj, hj1, h4]
  · cases hs
/-- entry -/
theorem qlay_at (X : qX) : ∀ (vs : List Value) (i j : Nat) (w : Value), (qlay vs)[j]? = some w → qisp w = false → (i + j, qv X w) ∈ lv_args i (vs.map (qv X))
  | [], _, _, _, h, _ => by cases h
  | v :: r, i, j, w, h, hp => by
    unfold qlay at h
    simp only [List.map_cons, lv_args]
    rw [qv_cat]
    have hq := qcat_eq v
    rcases (show qcat v = 1 ∨ qcat v = 2 by cases v <;> simp [qcat]) with h1 | h2
    · rw [h1] at h hq
      rw [← hq, if_neg (by decide)]
      try dsimp only at h
      cases j with
      | zero =>
        simp only [List.getElem?_cons_zero] at h
        cases h
        exact List.mem_cons_self
      | succ j =>
        simp only [List.getElem?_cons_succ] at h
        have := qlay_at X r (i + 1) j w h hp
        rw [Nat.add_assoc, Nat.add_comm 1 j] at this
        exact List.mem_cons_of_mem _ this
    · rw [h2] at h hq
      rw [← hq, if_pos rfl]
      try dsimp only at h
      cases j with
      | zero =>
        simp only [List.getElem?_cons_zero] at h
        cases h
        exact List.mem_cons_self
      | succ j =>
        cases j with
        | zero =>
          simp only [List.getElem?_cons_succ, List.getElem?_cons_zero] at h
          cases h
          cases hp
        | succ j =>
          simp only [List.getElem?_cons_succ] at h
          have := qlay_at X r (i + 2) j w h hp
          rw [show i + 2 + j = i + (j + 1 + 1) by omega] at this
          exact List.mem_cons_of_mem _ this
theorem qlay_len (X : qX) : ∀ vs : List Value, (lg_sl (vs.map (qv X))).length = (qlay vs).length
  | [] => rfl
  | v :: r => by
    have ih := qlay_len X r
    have hq := qcat_eq v
    unfold lg_sl at ih ⊢
    unfold qlay
    simp only [List.map_cons, List.flatMap_cons, List.length_append]
    rw [ih, qv_cat]
    rcases (show qcat v = 1 ∨ qcat v = 2 by cases v <;> simp [qcat]) with h1 | h2
    · rw [h1] at hq
      rw [← hq, if_neg (by decide), h1]
      simp only [List.length_cons, List.length_nil]
      omega
    · rw [h2] at hq
      rw [← hq, if_pos rfl, h2]
      simp only [List.length_cons, List.length_nil]
      omega
theorem qfil_len : ∀ (n : Nat) (l : List Value), l.length ≤ n → (qfil n l).length = n
  | 0, l, h => by unfold qfil; omega
  | n + 1, [], _ => by unfold qfil; rw [List.length_cons, qfil_len n [] (Nat.zero_le _)]
  | n + 1, v :: l, h => by unfold qfil; rw [List.length_cons, qfil_len n l (by simp only [List.length_cons] at h; omega)]
theorem qfil_at : ∀ (n : Nat) (l : List Value) (j : Nat) (w : Value), (qfil n l)[j]? = some w → qisp w = false → l[j]? = some w
  | 0, l, j, w, h, _ => by unfold qfil at h; exact h
  | n + 1, [], j, w, h, hp => by
    unfold qfil at h
    cases j with
    | zero => simp only [List.getElem?_cons_zero] at h; cases h; cases hp
    | succ j => simp only [List.getElem?_cons_succ] at h; have := qfil_at n [] j w h hp; cases this
  | n + 1, v :: l, j, w, h, hp => by
    unfold qfil at h
    cases j with
    | zero => exact h
    | succ j => simp only [List.getElem?_cons_succ] at h ⊢; exact qfil_at n l j w h hp
theorem qLs_entry (X : qX) (vs : List Value) (n : Nat) (h : (qlay vs).length ≤ n) : qLs X n (qfil n (qlay vs)) ((lg_sl (vs.map (qv X)) ++ List.replicate (n - (lg_sl (vs.map (qv X))).length) Slot.unset).toArray) := by
  refine ⟨_, lv_entry (vs.map (qv X)) (by rw [qlay_len]; exact h), qfil_len n _ h, fun i w hw hp => ?_⟩
  have := qlay_at X vs 0 i w (qfil_at n _ i w hw hp) hp
  rwa [Nat.zero_add] at this
