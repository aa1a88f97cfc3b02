/-! the shortest recurrence -/
def dsc (s C : Nat → Int) (L j : Nat) : Int := sm (fun i => C i * s (j - i)) (L + 1)
def gG (p : Int) (s : Nat → Int) (n L : Nat) (C : Nat → Int) : Prop := C 0 = 1 ∧ (∀ i, L < i → C i = 0) ∧ ∀ j, L ≤ j → j < n → p ∣ dsc s C L j
theorem gG.le {p : Int} {s C : Nat → Int} {n m L : Nat} (h : gG p s n L C) (hm : m ≤ n) : gG p s m L C := ⟨h.1, h.2.1, fun j h1 h2 => h.2.2 j h1 (by omega)⟩
/-- Massey: one that misses at N and one that doesn't are long together -/
theorem massey {p : Int} {s C D : Nat → Int} {N L M : Nat} (h : gG p s N L C) (hm : ¬ p ∣ dsc s C L N) (hD : gG p s (N + 1) M D) : N + 1 ≤ L + M := by
  refine Classical.byContradiction (fun hlt => hm ?_)
  have hlt : L + M ≤ N := by omega
  have e1 : p ∣ sm (fun i => C i * dsc s D M (N - i)) (L + 1) := sm_dvd (fun i hi => Int.dvd_mul_of_dvd_right (hD.2.2 (N - i) (by omega) (by omega)))
  have e2 : sm (fun i => C i * dsc s D M (N - i)) (L + 1) = sm (fun j => D j * dsc s C L (N - j)) (M + 1) := by
    unfold dsc
    have a1 : sm (fun i => C i * sm (fun j => D j * s (N - i - j)) (M + 1)) (L + 1) = sm (fun i => sm (fun j => C i * (D j * s (N - i - j))) (M + 1)) (L + 1) := sm_congr (fun i _ => (sm_mul _ _ _).symm)
    have a2 : sm (fun j => D j * sm (fun i => C i * s (N - j - i)) (L + 1)) (M + 1) = sm (fun j => sm (fun i => D j * (C i * s (N - j - i))) (L + 1)) (M + 1) := sm_congr (fun i _ => (sm_mul _ _ _).symm)
    rw [a1, a2, sm_swap]
    refine sm_congr (fun j _ => sm_congr (fun i _ => ?_))
    rw [← Int.mul_assoc, ← Int.mul_assoc, Int.mul_comm (C i), show N - i - j = N - j - i by omega]
  rw [e2, sm_head, hD.1, Int.one_mul, Nat.sub_zero] at e1
  have e3 : p ∣ sm (fun j => D (j + 1) * dsc s C L (N - (j + 1))) M := sm_dvd (fun j hj => Int.dvd_mul_of_dvd_right (h.2.2 _ (by omega) (by omega)))
  have := Int.dvd_sub e1 e3
  rwa [Int.add_sub_cancel] at this
/-- where the shortest is no longer than half, there is one alone -/
theorem rec_uniq {p : Nat} (hp : pr p) {s C D : Nat → Int} {n L : Nat} (hC : gG p s n L C) (hD : gG p s n L D) (hmin : ∀ M E, gG p s n M E → L ≤ M) (h2 : 2 * L ≤ n) : ∀ i, (p : Int) ∣ C i - D i := by
  refine Classical.byContradiction (fun hne => ?_)
  simp only [Classical.not_forall] at hne
  obtain ⟨i0, hi0, hlo⟩ : ∃ i, ¬ (p : Int) ∣ C i - D i ∧ ∀ j, j < i → (p : Int) ∣ C j - D j := by
    obtain ⟨i, hi⟩ := hne
    induction i using Nat.strongRecOn with
    | ind i ih =>
      by_cases hall : ∀ j, j < i → (p : Int) ∣ C j - D j
      · exact ⟨i, hi, hall⟩
      · simp only [Classical.not_forall] at hall
        obtain ⟨j, h1, h3⟩ := hall
        exact ih j h1 h3
  have hpos : 1 ≤ i0 := by
    rcases Nat.eq_zero_or_pos i0 with e | e
    · exfalso
      rw [e, hC.1, hD.1, Int.sub_self] at hi0
      exact hi0 (Int.dvd_zero _)
    · exact e
  have hle : i0 ≤ L := by
    refine Classical.byContradiction (fun h => ?_)
    rw [hC.2.1 i0 (by omega), hD.2.1 i0 (by omega), Int.sub_self] at hi0
    exact hi0 (Int.dvd_zero _)
  obtain ⟨w, hw⟩ := hp.unit hi0
  -- the difference, divided by its first number: a shorter one
  have hE0 : ∀ k : Nat, L - i0 ≤ k → k < n - i0 → (p : Int) ∣ sm (fun i => (if i = 0 then 1 else (C (i + i0) - D (i + i0)) * w) * s (k - i)) (L - i0 + 1) := by
    intro k hk1 hk2
    have a1 := Int.dvd_sub (hC.2.2 (k + i0) (by omega) (by omega)) (hD.2.2 (k + i0) (by omega) (by omega))
    unfold dsc at a1
    rw [← sm_sub, show L + 1 = i0 + (L - i0 + 1) by omega, sm_split] at a1
    have a2 : (p : Int) ∣ sm (fun i => C i * s (k + i0 - i) - D i * s (k + i0 - i)) i0 := sm_dvd (fun i hi => by
      rw [← Int.sub_mul]
      exact Int.dvd_mul_of_dvd_left (hlo i hi))
    have a3 := Int.dvd_sub a1 a2
    rw [Int.add_comm, Int.add_sub_cancel] at a3
    have a4 : (p : Int) ∣ w * sm (fun i => C (i0 + i) * s (k + i0 - (i0 + i)) - D (i0 + i) * s (k + i0 - (i0 + i))) (L - i0 + 1) := Int.dvd_mul_of_dvd_right a3
    rw [← sm_mul, sm_head] at a4
    rw [sm_head]
    have a5 : sm (fun i => (if i + 1 = 0 then 1 else (C (i + 1 + i0) - D (i + 1 + i0)) * w) * s (k - (i + 1))) (L - i0) = sm (fun i => w * (C (i0 + (i + 1)) * s (k + i0 - (i0 + (i + 1))) - D (i0 + (i + 1)) * s (k + i0 - (i0 + (i + 1))))) (L - i0) := sm_congr (fun i hi => by
      rw [if_neg (by omega), ← Int.sub_mul, show i + 1 + i0 = i0 + (i + 1) by omega, show k + i0 - (i0 + (i + 1)) = k - (i + 1) by omega, Int.mul_comm _ w, Int.mul_assoc])
    rw [a5, if_pos rfl, Int.one_mul, Nat.sub_zero]
    have a6 : (p : Int) ∣ ((C i0 - D i0) * w - 1) * s k := Int.dvd_mul_of_dvd_left hw
    have a7 := Int.dvd_sub a4 a6
    rw [Nat.add_zero, show k + i0 - i0 = k by omega] at a7
    rwa [show w * (C i0 * s k - D i0 * s k) + sm (fun i => w * (C (i0 + (i + 1)) * s (k + i0 - (i0 + (i + 1))) - D (i0 + (i + 1)) * s (k + i0 - (i0 + (i + 1))))) (L - i0) - ((C i0 - D i0) * w - 1) * s k = s k + sm (fun i => w * (C (i0 + (i + 1)) * s (k + i0 - (i0 + (i + 1))) - D (i0 + (i + 1)) * s (k + i0 - (i0 + (i + 1))))) (L - i0) by
      rw [← Int.sub_mul, Int.sub_mul ((C i0 - D i0) * w), Int.one_mul, ← Int.mul_assoc, Int.mul_comm w]; omega] at a7
  have hE : gG p s (n - i0) (L - i0) (fun i => if i = 0 then 1 else (C (i + i0) - D (i + i0)) * w) := by
    refine ⟨if_pos rfl, fun i hi => ?_, fun k h1 h3 => hE0 k h1 h3⟩
    dsimp only
    rw [if_neg (by omega), hC.2.1 _ (by omega), hD.2.1 _ (by omega), Int.sub_self, Int.zero_mul]
  generalize (fun i => if i = 0 then 1 else (C (i + i0) - D (i + i0)) * w) = E at hE
  -- it must miss somewhere
  have hmiss : ∃ N, n - i0 ≤ N ∧ N < n ∧ gG p s N (L - i0) E ∧ ¬ (p : Int) ∣ dsc s E (L - i0) N := by
    refine Classical.byContradiction (fun hno => ?_)
    have hall : ∀ t, t ≤ i0 → gG p s (n - i0 + t) (L - i0) E := by
      intro t
      induction t with
      | zero => intro _; exact hE
      | succ t ih =>
        intro ht
        have g1 := ih (by omega)
        refine ⟨g1.1, g1.2.1, fun j h1 h3 => ?_⟩
        by_cases hj : j < n - i0 + t
        · exact g1.2.2 j h1 hj
        · rw [show j = n - i0 + t by omega]
          exact Classical.byContradiction (fun h5 => hno ⟨n - i0 + t, by omega, by omega, g1, h5⟩)
    have := hmin _ _ ((hall i0 (Nat.le_refl _)).le (m := n) (by omega))
    omega
  obtain ⟨N, h3, h4, h5, h6⟩ := hmiss
  have := massey h5 h6 (hC.le (m := N + 1) (by omega))
  omega
/-- what is held when so many places have been looked at -/
def bmI (p : Int) (s : Nat → Int) (n L m : Nat) (b : Int) (C B : Nat → Int) : Prop :=
  L ≤ n ∧ gG p s n L C ∧ (∀ M E, gG p s n M E → L ≤ M) ∧ 1 ≤ m ∧
    ((L = 0 ∧ m = n + 1 ∧ B = p1 ∧ b = 1) ∨ (∃ LB, m ≤ n ∧ L + LB = n - m + 1 ∧ LB ≤ n - m ∧ gG p s (n - m) LB B ∧ p ∣ dsc s B LB (n - m) - b ∧ ¬ p ∣ b))
theorem bm_0 (p : Int) (s : Nat → Int) : bmI p s 0 0 1 1 p1 p1 :=
  ⟨Nat.le_refl _, ⟨rfl, fun i hi => if_neg (by omega), fun j _ h => absurd h (Nat.not_lt_zero j)⟩, fun _ _ _ => Nat.zero_le _, Nat.le_refl _, Or.inl ⟨rfl, rfl, rfl, rfl⟩⟩
theorem bm_same {p : Int} {s : Nat → Int} {n L m : Nat} {b : Int} {C B : Nat → Int} (h : bmI p s n L m b C B) (hd : p ∣ dsc s C L n) : bmI p s (n + 1) L (m + 1) b C B := by
  obtain ⟨h1, h2, h3, h4, h5⟩ := h
  refine ⟨by omega, ⟨h2.1, h2.2.1, fun j a1 a2 => ?_⟩, fun M E hE => h3 M E (hE.le (by omega)), by omega, ?_⟩
  · by_cases hj : j < n
    · exact h2.2.2 j a1 hj
    · rw [show j = n by omega]; exact hd
  · rcases h5 with ⟨a1, a2, a3, a4⟩ | ⟨LB, a1, a2, a3, a4⟩
    · exact Or.inl ⟨a1, by omega, a3, a4⟩
    · refine Or.inr ⟨LB, by omega, ?_⟩
      rw [show n + 1 - (m + 1) = n - m by omega]
      exact ⟨a2, a3, a4⟩
def bmC (p : Int) (C B : Nat → Int) (f : Int) (m : Nat) (i : Nat) : Int := if i < m then C i else (C i + (p - f) * B (i - m)) % p
/-- the new one, where it missed -/
theorem bm_new {p : Int} (hp : 1 < p) {s : Nat → Int} {n L m : Nat} {b f : Int} {C B : Nat → Int} (h : bmI p s n L m b C B) (hC : ∀ i, 0 ≤ C i ∧ C i < p) (hf : p ∣ f * b - dsc s C L n) : gG p s (n + 1) (max L (n + 1 - L)) (bmC p C B f m) := by
  obtain ⟨h1, h2, h3, h4, h5⟩ := h
  have hB : ∀ i, n + 1 - L < i + m → B i = 0 := by
    intro i hi
    rcases h5 with ⟨a1, a2, a3, a4⟩ | ⟨LB, a1, a2, a3, a4, -⟩
    · rw [a3]; exact if_neg (by omega)
    · exact a4.2.1 i (by omega)
  refine ⟨?_, fun i hi => ?_, fun j hj1 hj2 => ?_⟩
  · unfold bmC; rw [if_pos (by omega)]; exact h2.1
  · unfold bmC
    by_cases hm : i < m
    · rw [if_pos hm]; exact h2.2.1 i (by omega)
    · rw [if_neg hm, h2.2.1 i (by omega), hB (i - m) (by omega), Int.mul_zero]; rfl
  · rcases h5 with ⟨a1, a2, a3, a4⟩ | ⟨LB, a1, a2, a3, a4, a5, -⟩
    · omega
    · generalize hLm : max L (n + 1 - L) = Lm at hj1
      have hLm1 : L ≤ Lm := by omega
      have hLm2 : m + LB ≤ Lm := by omega
      -- the sum of the new one: that of the old one, less so many of the one before
      have e1 : p ∣ dsc s (bmC p C B f m) Lm j - (sm (fun i => C i * s (j - i)) (Lm + 1) - f * sm (fun i => B i * s (j - m - i)) (Lm + 1 - m)) := by
        have c1 : sm (fun i => (if i < m then 0 else B (i - m) * s (j - i))) (Lm + 1) = sm (fun i => B i * s (j - m - i)) (Lm + 1 - m) := by
          rw [show Lm + 1 = m + (Lm + 1 - m) by omega, sm_split, sm_zero (fun i hi => if_pos hi), Int.zero_add, show m + (Lm + 1 - m) - m = Lm + 1 - m by omega]
          exact sm_congr (fun i _ => by rw [if_neg (by omega), show m + i - m = i by omega, show j - (m + i) = j - m - i by omega])
        rw [← c1, ← sm_mul, ← sm_sub]
        unfold dsc
        rw [← sm_sub]
        refine sm_dvd (fun i hi => ?_)
        unfold bmC
        by_cases hm : i < m
        · rw [if_pos hm, if_pos hm, Int.mul_zero, Int.sub_zero, Int.sub_self]; exact Int.dvd_zero p
        · rw [if_neg hm, if_neg hm]
          have c2 := Int.emod_add_mul_ediv (C i + (p - f) * B (i - m)) p
          generalize (C i + (p - f) * B (i - m)) % p = t at c2 ⊢
          generalize (C i + (p - f) * B (i - m)) / p = u at c2
          have c3 : t = C i + (p - f) * B (i - m) - p * u := by omega
          refine ⟨(B (i - m) - u) * s (j - i), ?_⟩
          rw [c3, ← Int.mul_assoc f, ← Int.sub_mul, ← Int.sub_mul, ← Int.mul_assoc]
          congr 1
          rw [Int.sub_mul p f, Int.mul_sub p]
          omega
      have e2 : sm (fun i => C i * s (j - i)) (Lm + 1) = dsc s C L j := sm_more (by omega) (fun i b1 b2 => by rw [h2.2.1 i (by omega), Int.zero_mul])
      have e3 : sm (fun i => B i * s (j - m - i)) (Lm + 1 - m) = dsc s B LB (j - m) := sm_more (by omega) (fun i b1 b2 => by rw [a4.2.1 i (by omega), Int.zero_mul])
      rw [e2, e3] at e1
      have e4 : p ∣ dsc s C L j - f * dsc s B LB (j - m) := by
        by_cases hjn : j < n
        · exact Int.dvd_sub (h2.2.2 j (by omega) hjn) (Int.dvd_mul_of_dvd_right (a4.2.2 (j - m) (by omega) (by omega)))
        · rw [show j = n by omega]
          have b1 := Int.dvd_mul_of_dvd_right (b := f) a5
          have b2 := Int.dvd_add b1 hf
          have b3 := Int.dvd_neg.mpr b2
          rwa [Int.mul_sub, show -(f * dsc s B LB (n - m) - f * b + (f * b - dsc s C L n)) = dsc s C L n - f * dsc s B LB (n - m) by omega] at b3
      have := Int.dvd_add e1 e4
      rwa [Int.sub_add_cancel] at this
theorem bm_min {p : Int} {s : Nat → Int} {n L m : Nat} {b : Int} {C B : Nat → Int} (h : bmI p s n L m b C B) (hd : ¬ p ∣ dsc s C L n) : ∀ M E, gG p s (n + 1) M E → max L (n + 1 - L) ≤ M := by
  intro M E hE
  have a1 := h.2.2.1 M E (hE.le (by omega))
  have a2 := massey h.2.1 hd hE
  omega
theorem bm_short {p : Int} (hp : 1 < p) {s : Nat → Int} {n L m : Nat} {b f : Int} {C B : Nat → Int} (h : bmI p s n L m b C B) (hC : ∀ i, 0 ≤ C i ∧ C i < p) (hd : ¬ p ∣ dsc s C L n) (hf : p ∣ f * b - dsc s C L n) (hl : n < 2 * L) : bmI p s (n + 1) L (m + 1) b (bmC p C B f m) B := by
  have e : max L (n + 1 - L) = L := by omega
  have g1 := bm_new hp h hC hf
  have g2 := bm_min h hd
  rw [e] at g1 g2
  obtain ⟨h1, h2, h3, h4, h5⟩ := h
  refine ⟨by omega, g1, g2, by omega, ?_⟩
  rcases h5 with ⟨a1, a2, a3, a4⟩ | ⟨LB, a1, a2, a3, a4⟩
  · omega
  · refine Or.inr ⟨LB, by omega, ?_⟩
    rw [show n + 1 - (m + 1) = n - m by omega]
    exact ⟨a2, a3, a4⟩
theorem bm_long {p : Int} (hp : 1 < p) {s : Nat → Int} {n L m : Nat} {b f d : Int} {C B : Nat → Int} (h : bmI p s n L m b C B) (hC : ∀ i, 0 ≤ C i ∧ C i < p) (hd : ¬ p ∣ dsc s C L n) (hd2 : p ∣ dsc s C L n - d) (hf : p ∣ f * b - dsc s C L n) (hl : 2 * L ≤ n) : bmI p s (n + 1) (n + 1 - L) 1 d (bmC p C B f m) C := by
  have e : max L (n + 1 - L) = n + 1 - L := by omega
  have g1 := bm_new hp h hC hf
  have g2 := bm_min h hd
  rw [e] at g1 g2
  refine ⟨by omega, g1, g2, Nat.le_refl _, Or.inr ⟨L, by omega, ?_⟩⟩
  rw [Nat.add_sub_cancel]
  refine ⟨by omega, by omega, h.2.1, hd2, fun hx => hd ?_⟩
  have := Int.dvd_add hd2 hx
  rwa [Int.sub_add_cancel] at this
