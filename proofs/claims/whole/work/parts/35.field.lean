/-! the field of a prime -/
theorem em_l (a b p : Int) : a % p * b % p = a * b % p := by rw [Int.mul_emod (a % p) b, Int.emod_emod, ← Int.mul_emod]
theorem em_r (a b p : Int) : a * (b % p) % p = a * b % p := by rw [Int.mul_comm, em_l, Int.mul_comm]
def pr (p : Nat) : Prop := prB p = true ∧ p < 998
def iv (p : Nat) (v : Int) : Int := v ^ (p - 2) % (p : Int)
theorem pr.two {p : Nat} (h : pr p) : 2 ≤ p := by
  have h1 := h.1
  unfold prB at h1
  rw [Bool.and_eq_true] at h1
  exact Nat.le_of_ble_eq_true h1.1
theorem pr.fld {p a : Nat} (h : pr p) (h0 : a ≠ 0) (ha : a < p) : a ^ (p - 2) * a % p = 1 := by
  have h1 := List.all_eq_true.mp fld_all p (List.mem_range.mpr h.2)
  rw [h.1] at h1
  have h2 : fldB p = true := by simpa using h1
  have h3 := List.all_eq_true.mp h2 a (List.mem_range.mpr ha)
  rw [Bool.or_eq_true] at h3
  rcases h3 with h3 | h3
  · exact absurd (Nat.eq_of_beq_eq_true h3) h0
  · exact Nat.eq_of_beq_eq_true h3
theorem pr.ivu {p : Nat} (h : pr p) {v : Int} (h0 : v ≠ 0) (hv : 0 ≤ v ∧ v < p) : (p : Int) ∣ v * iv p v - 1 := by
  obtain ⟨a, rfl⟩ := Int.eq_ofNat_of_zero_le hv.1
  have h1 := h.fld (a := a) (by omega) (by omega)
  have h2 := congrArg (fun n : Nat => (n : Int)) h1
  rw [Int.natCast_emod, Int.natCast_mul, Int.natCast_pow] at h2
  have := h.two
  apply dvd_emod.mpr
  unfold iv
  rw [Int.mul_comm, Int.mul_emod, Int.emod_emod, ← Int.mul_emod, h2]
  exact (Int.emod_eq_of_lt (by omega) (by omega)).symm
theorem pr.unit {p : Nat} (h : pr p) {v : Int} (hv : ¬ (p : Int) ∣ v) : ∃ w, (p : Int) ∣ v * w - 1 := by
  have := h.two
  have h1 : v % (p : Int) ≠ 0 := fun e => hv (Int.dvd_of_emod_eq_zero e)
  refine ⟨iv p (v % p), ?_⟩
  have h2 := h.ivu h1 ⟨Int.emod_nonneg _ (by omega), Int.emod_lt_of_pos _ (by omega)⟩
  apply dvd_emod.mpr
  have e : ∀ w : Int, v * w % p = (v % p) * w % p := fun w => (em_l v w p).symm
  rw [e]
  exact dvd_emod.mp h2
theorem iv_red {p : Nat} (h : 0 < p) (v : Int) : 0 ≤ iv p v ∧ iv p v < p := ⟨Int.emod_nonneg _ (by omega), Int.emod_lt_of_pos _ (by omega)⟩
theorem pr.mul {p : Nat} (h : pr p) {a b : Int} (hab : (p : Int) ∣ a * b) : (p : Int) ∣ a ∨ (p : Int) ∣ b := by
  by_cases ha : (p : Int) ∣ a
  · exact Or.inl ha
  · obtain ⟨w, hw⟩ := h.unit ha
    exact Or.inr (unit_off hw hab)
theorem pr.pow {p : Nat} (h : pr p) {a : Int} {k : Nat} (hab : (p : Int) ∣ a ^ k) : (p : Int) ∣ a := by
  have := h.two
  induction k with
  | zero =>
    rw [Int.pow_zero] at hab
    have := Int.le_of_dvd (by omega) hab
    omega
  | succ k ih =>
    rw [Int.pow_succ] at hab
    exact (h.mul hab).elim ih id
/-! powers that come to one -/
def isU (p : Int) (n : Nat) (c : Nat → Int) (k : Nat) : Prop := pE p n (pw c k) p1
theorem uni_pw {p : Int} {u : Nat → Int} {v : Nat} (hv : 1 ≤ v) (h0 : p ∣ u 0 - 1) (hi : ∀ i, 1 ≤ i → i < v → p ∣ u i) (m : Nat) : p ∣ pw u (m + 1) v - ((m : Int) + 1) * u v := by
  have h1 : pE p (v + 1) u (fun i => if i = v then u v else p1 i) := fun i hi2 => by
    dsimp only
    by_cases h : i = v
    · rw [if_pos h, h, Int.sub_self]; exact Int.dvd_zero p
    · rw [if_neg h]
      unfold p1
      by_cases h2 : i = 0
      · rw [if_pos h2, h2]; exact h0
      · rw [if_neg h2, Int.sub_zero]; exact hi i (by omega) (by omega)
  have h2 : dD v p1 (fun i => if i = v then u v else p1 i) (u v) := by
    refine ⟨fun i hi => if_neg (by omega), ?_⟩
    dsimp only
    rw [if_pos rfl, show p1 v = 0 from if_neg (by omega), Int.zero_add]
  have h3 := (h2.pw hv m).2
  have h4 := h1.pw (m + 1) v (by omega)
  rw [h3, pw_one, show p1 v = 0 from if_neg (by omega), show p1 0 = 1 from rfl, Int.one_pow, Int.mul_one, Int.zero_add] at h4
  exact h4
theorem uni_dvd {p : Nat} (hp : pr p) {n m : Nat} {u : Nat → Int} (h0 : (p : Int) ∣ u 0 - 1) (hn : ¬ pE p n u p1) (h : isU p n u (m + 1)) : (p : Int) ∣ ((m : Int) + 1) := by
  have hex : ∃ v, v < n ∧ 1 ≤ v ∧ ¬ (p : Int) ∣ u v := by
    refine Classical.byContradiction (fun hne => hn (fun i hi => ?_))
    by_cases h2 : i = 0
    · rw [h2]; exact h0
    · rw [show p1 i = 0 from if_neg h2, Int.sub_zero]
      exact Classical.byContradiction (fun h3 => hne ⟨i, hi, by omega, h3⟩)
  obtain ⟨v, hv1, hv2, hv3, hv4⟩ : ∃ v, v < n ∧ 1 ≤ v ∧ ¬ (p : Int) ∣ u v ∧ ∀ i, 1 ≤ i → i < v → (p : Int) ∣ u i := by
    obtain ⟨v, hv⟩ := hex
    induction v using Nat.strongRecOn with
    | ind v ih =>
      by_cases hall : ∀ i, 1 ≤ i → i < v → (p : Int) ∣ u i
      · exact ⟨v, hv.1, hv.2.1, hv.2.2, hall⟩
      · simp only [Classical.not_forall] at hall
        obtain ⟨i, h1, h2, h3⟩ := hall
        exact ih i h2 ⟨by omega, h1, h3⟩
  have h1 := uni_pw hv2 h0 hv4 m
  have h2 := h v hv1
  rw [show p1 v = 0 from if_neg (by omega), Int.sub_zero] at h2
  have h3 := Int.dvd_sub h2 h1
  rw [show pw u (m + 1) v - (pw u (m + 1) v - ((m : Int) + 1) * u v) = ((m : Int) + 1) * u v by omega] at h3
  exact (hp.mul h3).resolve_right hv3
/-- the numbers of powers that come to one: all have what was found so far -/
theorem one_step {p : Nat} (hp : pr p) {n d k : Nat} {c : Nat → Int} (hd : (p : Int) ∣ c 0 ^ d - 1) (hdk : ∀ k, 1 ≤ k → isU p n c k → d ∣ k) (hn : ¬ isU p n c d) (hk : 1 ≤ k) (h : isU p n c k) : d * p ∣ k := by
  obtain ⟨m, rfl⟩ := hdk k hk h
  have hm : m ≠ 0 := fun e => by rw [e, Nat.mul_zero] at hk; omega
  obtain ⟨m', rfl⟩ : ∃ m', m = m' + 1 := ⟨m - 1, by omega⟩
  unfold isU at h
  rw [pw_mul] at h
  have h1 := uni_dvd hp (u := pw c d) (by rw [pw_z]; exact hd) hn h
  have h2 : p ∣ m' + 1 := Int.natCast_dvd_natCast.mp (by rw [Int.natCast_add]; exact h1)
  exact Nat.mul_dvd_mul_left d h2
theorem ord_dvd {p : Int} {a : Int} {d k : Nat} (hd0 : 1 ≤ d) (hd : p ∣ a ^ d - 1) (hmin : ∀ j, 1 ≤ j → j < d → ¬ p ∣ a ^ j - 1) (hk : p ∣ a ^ k - 1) : d ∣ k := by
  have h1 : ∀ q : Nat, p ∣ a ^ (d * q) - 1 := by
    intro q
    induction q with
    | zero => rw [Nat.mul_zero, Int.pow_zero, Int.sub_self]; exact Int.dvd_zero p
    | succ q ih =>
      rw [Nat.mul_succ, Int.pow_add]
      have := Int.dvd_add (Int.dvd_mul_of_dvd_right (b := a ^ (d * q)) hd) ih
      rwa [Int.mul_sub, Int.mul_one, show a ^ (d * q) * a ^ d - a ^ (d * q) + (a ^ (d * q) - 1) = a ^ (d * q) * a ^ d - 1 by omega] at this
  have h2 : k = d * (k / d) + k % d := (Nat.div_add_mod k d).symm
  have hlt : k % d < d := Nat.mod_lt _ (by omega)
  by_cases h0 : k % d = 0
  · exact Nat.dvd_of_mod_eq_zero h0
  · exfalso
    refine hmin (k % d) (by omega) hlt ?_
    rw [h2, Int.pow_add] at hk
    have h3 := Int.dvd_sub hk (Int.dvd_mul_of_dvd_left (c := a ^ (k % d)) (h1 (k / d)))
    rwa [Int.sub_mul, Int.one_mul, show a ^ (d * (k / d)) * a ^ (k % d) - 1 - (a ^ (d * (k / d)) * a ^ (k % d) - a ^ (k % d)) = a ^ (k % d) - 1 by omega] at h3
