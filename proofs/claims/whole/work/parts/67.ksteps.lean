/-! STEPS and RINGS: how they are read, and the class reads them -/
abbrev SP : Type := Nat × List (Nat × Nat)
def stepP (t : List Nat) (i : Nat) : Nat ⊕ (Nat × SP) :=
  if 97 ≤ tb t (sk t i) ∧ tb t (sk t i) ≤ 104 then
    match sg t 61 (sk t i + 1) with
    | .inl f => .inl f
    | .inr j => match exD t 8 j 0 with
      | .inl f => .inl f
      | .inr (i', _, n) => .inr (i', tb t (sk t i) - 97, n)
  else .inl (sk t i)
def stepsP (t : List Nat) : Nat → Nat → List SP → Nat ⊕ List SP
  | 0, i, _ => .inl i
  | f + 1, i, acc => match stepP t i with
    | .inl f => .inl f
    | .inr (i', s) => if tb t (sk t i') = 0 then .inr (acc ++ [s]) else if f = 0 then .inl (sk t i') else match sg t 59 i' with
      | .inl f => .inl f
      | .inr j => stepsP t f j (acc ++ [s])
def ringL (t : List Nat) : Nat → Nat → Bool → Bool → Nat → Nat → Nat ⊕ (Nat × Nat)
  | 0, _, _, _, p, m => .inr (p, m)
  | f + 1, i, pt, mt, p, m => if tb t (sk t i) = 0 then .inr (p, m) else
    if pt = false ∧ tb t (sk t i) = 112 then (match nu t 2 997 true (sk t i + 1) with
      | .inl f => .inl f
      | .inr q => ringL t f q.1 true mt q.2 m) else
    if mt = false ∧ tb t (sk t i) = 109 then (match nu t 2 24 false (sk t i + 1) with
      | .inl f => .inl f
      | .inr q => ringL t f q.1 pt true p q.2) else .inl (sk t i)
def ringP (t : List Nat) : Nat ⊕ (Nat × Nat) := match sg t 115 0 with
  | .inl f => .inl f
  | .inr j => ringL t 3 j false false 7 12
def cat (ss : List SP) : List (Nat × Nat) := ss.flatMap (·.2)
def off (ss : List SP) (j : Nat) : Nat := (cat (ss.take j)).length
def kCode (I : qI) (x n : Nat) (ss : List SP) : Prop := I x 3 = nI ss.length ∧ ss.length ≤ 8 ∧ I x 4 = nI (cat ss).length ∧ (cat ss).length ≤ n ∧ (∀ j, j ≤ ss.length → I (x + 1) j = nI (off ss j)) ∧ (∀ j s, ss[j]? = some s → I (x + 2) j = nI s.1) ∧ ∀ j o, (cat ss)[j]? = some o → I (x + 3) j = nI (enc o)
theorem cat_app (a b : List SP) : cat (a ++ b) = cat a ++ cat b := List.flatMap_append
theorem cat_one (s : SP) : cat [s] = s.2 := by unfold cat; simp
theorem off_app {ss : List SP} {s : SP} {j : Nat} (h : j ≤ ss.length) : off (ss ++ [s]) j = off ss j := by unfold off; rw [List.take_append_of_le_length h]
theorem off_all (ss : List SP) : off ss ss.length = (cat ss).length := by unfold off; rw [List.take_length]
theorem off_succ {ss : List SP} {s : SP} {j : Nat} (h : ss[j]? = some s) : off ss (j + 1) = off ss j + s.2.length := by
  unfold off
  rw [List.take_succ, h, cat_app, List.length_append]
  congr 1
  show (cat [s]).length = _
  rw [cat_one]
theorem cat_at {ss : List SP} {s : SP} {j q : Nat} {o : Nat × Nat} (h : ss[j]? = some s) (ho : s.2[q]? = some o) : (cat ss)[off ss j + q]? = some o := by
  have hl := getE_lt h
  have e : ss = ss.take j ++ ([s] ++ ss.drop (j + 1)) := by
    have h2 : ss[j] = s := by rw [List.getElem?_eq_getElem hl] at h; exact Option.some.inj h
    rw [← h2, List.singleton_append, List.getElem_cons_drop, List.take_append_drop]
  have e2 : cat ss = cat (ss.take j) ++ (s.2 ++ cat (ss.drop (j + 1))) := by
    conv => lhs; rw [e]
    rw [cat_app, cat_app, cat_one]
  rw [e2]
  unfold off
  rw [List.getElem?_append_right (by omega), show (cat (ss.take j)).length + q - (cat (ss.take j)).length = q by omega, List.getElem?_append_left (getE_lt ho)]
  exact ho
theorem off_le {ss : List SP} {s : SP} {j : Nat} (h : ss[j]? = some s) : off ss j + s.2.length ≤ (cat ss).length := by
  cases hn : s.2.length with
  | zero =>
    unfold off
    conv => rhs; rw [← List.take_append_drop j ss]
    rw [cat_app, List.length_append]
    omega
  | succ k =>
    have h2 : s.2[k]? = some (s.2[k]'(by omega)) := List.getElem?_eq_getElem (by omega)
    have := getE_lt (cat_at h h2)
    omega
theorem kCode.ops {I : qI} {x n j : Nat} {ss : List SP} {s : SP} (h : kCode I x n ss) (hn : n < 100000) (hj : ss[j]? = some s) : kOps I x n j (off ss j) s.2 := by
  obtain ⟨h1, h2, h3, h4, h5, h6, h7⟩ := h
  have hl := getE_lt hj
  refine ⟨⟨ss.length, h1, hl, h2⟩, h5 j (by omega), ?_, ⟨_, h3, off_le hj, h4⟩, hn, fun q o ho => h7 _ o (cat_at hj ho)⟩
  rw [h5 (j + 1) (by omega), off_succ hj]
theorem prB_iff {n : Nat} (h : n < 1000) : prB n = true ↔ 2 ≤ n ∧ ∀ t, 2 ≤ t → t * t ≤ n → n % t ≠ 0 := by
  unfold prB
  rw [Bool.and_eq_true, Nat.ble_eq, List.all_eq_true]
  refine and_congr_right (fun _ => ⟨fun hh t h2 ht h0 => ?_, fun hh t ht => ?_⟩)
  · have h32 : t < 32 := Nat.lt_of_not_le (fun h32 => by have := Nat.mul_le_mul h32 h32; omega)
    have := hh t (List.mem_range.mpr h32)
    rw [Nat.ble_eq_true_of_le h2, Nat.ble_eq_true_of_le ht, h0] at this
    cases this
  · by_cases h2 : 2 ≤ t
    · by_cases h3 : t * t ≤ n
      · have := hh t h2 h3
        cases hb : Nat.beq (n % t) 0 with
        | false => simp
        | true => exact absurd (Nat.eq_of_beq_eq_true hb) this
      · have : Nat.ble (t * t) n = false := Bool.eq_false_iff.mpr (fun h => h3 (Nat.le_of_ble_eq_true h))
        rw [this]; simp
    · have : Nat.ble 2 t = false := Bool.eq_false_iff.mpr (fun h => h2 (Nat.le_of_ble_eq_true h))
      rw [this]; rfl
theorem nu_pb (t : List Nat) (lo hi i : Nat) : nu t lo hi true i = match nu t lo hi false i with
    | .inl f => .inl f
    | .inr q => if prB q.2 = true then .inr q else .inl (q.1 - 1) := by
  unfold nu
  generalize nuL t 3 (sk t i) 0 = q
  by_cases c1 : q.1 = sk t i
  · rw [if_pos c1, if_pos c1]
  · rw [if_neg c1, if_neg c1]
    by_cases c2 : 48 ≤ tb t q.1 ∧ tb t q.1 ≤ 57
    · rw [if_pos c2, if_pos c2]
    · rw [if_neg c2, if_neg c2]
      by_cases c3 : q.2 < lo ∨ hi < q.2
      · rw [if_pos (by rcases c3 with h | h; exact Or.inl h; exact Or.inr (Or.inl h)), if_pos (by rcases c3 with h | h; exact Or.inl h; exact Or.inr (Or.inl h))]
      · rw [if_neg (c := q.2 < lo ∨ hi < q.2 ∨ (false = true ∧ prB q.2 = false)) (by rintro (h | h | h); exact c3 (Or.inl h); exact c3 (Or.inr h); exact absurd h.1 (by decide))]
        dsimp only
        cases hb : prB q.2 with
        | true => rw [if_neg (by rintro (h | h | h); exact c3 (Or.inl h); exact c3 (Or.inr h); exact absurd h.2 (by decide)), if_pos rfl]
        | false => rw [if_pos (Or.inr (Or.inr ⟨rfl, rfl⟩)), if_neg (by decide)]
section KSTEPS
variable {d : Nat} {g : qG} {I : qI} {J : qJ} {Q : qQ} {i a : Nat} {t : List Nat}
theorem k_prm_l (hsh : qSh g) {v : Nat} (hv : v < 1000) (hi : I 11 4 = nI v) : ∀ f c : Nat, c + f = 33 → 2 ≤ c → (∀ t, 2 ≤ t → t < c → v % t ≠ 0) → (2 ≤ v) → (prB v = true → Q (some (.int (nI 1))) g I J) → (prB v = false → Q (some (.int (nI 0))) g (qw I 11 2 (I 11 2 - nI 1)) J) → qev (d + 1) 50 (15, [.ref 11, .int (nI c)], [], g, I, J) Q
  | 0, c, hc, h2, hn, hv2, k1, k0 => by
    have hc : c = 33 := by omega
    subst hc
    refine w50_15 hsh ?_
    rw [pk_mul, hi, nI_ltI (by omega) (by omega)]
    exact brT (by omega) (k1 ((prB_iff hv).mpr ⟨hv2, fun t a b => hn t a (Nat.lt_of_not_le (fun h => by have := Nat.mul_le_mul h h; omega))⟩))
  | f + 1, c, hc, h2, hn, hv2, k1, k0 => by
    have hcc : c * c ≤ 32 * 32 := Nat.mul_le_mul (by omega) (by omega)
    refine w50_15 hsh ?_
    rw [pk_mul, hi, nI_ltI (by omega) (by omega)]
    by_cases h3 : v < c * c
    · exact brT h3 (k1 ((prB_iff hv).mpr ⟨hv2, fun t a b => hn t a (Nat.lt_of_not_le (fun h => by have := Nat.mul_le_mul h h; omega))⟩))
    · refine brN h3 ⟨?_, ?_⟩
      · rw [← nI_0, nI_eq (by omega) (by omega)]; omega
      · rw [qrem, pk_rem (by omega) (by omega) (by omega), ← nI_0, nI_eq (by have := Nat.mod_lt v (show 0 < c by omega); omega) (by omega)]
        by_cases h4 : v % c = 0
        · refine brT h4 ?_
          rw [nI_0]
          exact k0 (Bool.eq_false_iff.mpr (fun hp => ((prB_iff hv).mp hp).2 c h2 (by omega) h4))
        · refine brN h4 ?_
          rw [nI_add]
          refine k_prm_l hsh hv hi f (c + 1) (by omega) (by omega) (fun t a b => ?_) hv2 k1 k0
          by_cases ht : t = c
          · rw [ht]; exact h4
          · exact hn t a (by omega)
theorem k_prime (hsh : qSh g) (hT : kTp t I) (hp : I 11 2 = nI i) (hi : i ≤ t.length) (k : match nu t 2 997 true i with | .inl f => ∀ I', kNF I I' → I' 11 2 = nI f → Q (some (.int (nI 0))) g I' J | .inr q => ∀ I', kNF I I' → I' 11 2 = nI q.1 → I' 11 4 = nI q.2 → Q (some (.int (nI 1))) g I' J) : qC (d + 2) 50 [.ref 11] g I J Q := by
  rw [nu_pb] at k
  have hn := nu_ok (t := t) (lo := 2) (hi := 997) (pb := false) (i := i) hi
  refine w50 hsh (k_num hsh hT hp hi (by omega) ?_)
  cases hr : nu t 2 997 false i with
  | inl f => rw [hr] at k; exact fun I1 f1 p1 => ⟨_, rfl, br0 (k I1 f1 p1)⟩
  | inr q =>
    rw [hr] at k hn
    dsimp only at k
    obtain ⟨n1, n2, n3, n4, n5, n6⟩ := hn
    refine fun I1 f1 p1 p2 => ⟨_, rfl, br1 ?_⟩
    refine k_prm_l (v := q.2) hsh (by omega) p2 31 2 (by omega) (by omega) (fun t a b => by omega) n3 (fun hb => ?_) (fun hb => ?_)
    · rw [if_pos hb] at k; exact k I1 f1 p1 p2
    · rw [if_neg (by rw [hb]; decide)] at k
      exact k _ (f1.trans kNF.w2) (by rw [zu_s, p1, pk_sub (by omega)])
end KSTEPS
