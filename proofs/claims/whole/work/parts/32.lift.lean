/-! one place more: what changes at that place -/
def dD (k : Nat) (f f' : Nat → Int) (a : Int) : Prop := (∀ i, i < k → f' i = f i) ∧ f' k = f k + a
theorem dD.mul {k : Nat} {f f' g g' : Nat → Int} {a b : Int} (hk : 1 ≤ k) (h1 : dD k f f' a) (h2 : dD k g g' b) : dD k (cv f g) (cv f' g') (a * g 0 + f 0 * b) := by
  refine ⟨fun i hi => sm_congr (fun j hj => by rw [h1.1 j (by omega), h2.1 (i - j) (by omega)]), ?_⟩
  obtain ⟨m, rfl⟩ : ∃ m, k = m + 1 := ⟨k - 1, by omega⟩
  unfold cv
  rw [sm_s, sm_s (fun i => f i * g (m + 1 - i)), sm_head, sm_head (fun i => f i * g (m + 1 - i)), Nat.sub_self, Nat.sub_zero, h1.2, h2.2, h1.1 0 (by omega), h2.1 0 (by omega)]
  have e : sm (fun i => f' (i + 1) * g' (m + 1 - (i + 1))) m = sm (fun i => f (i + 1) * g (m + 1 - (i + 1))) m := sm_congr (fun i hi => by rw [h1.1 (i + 1) (by omega), h2.1 (m + 1 - (i + 1)) (by omega)])
  rw [e, Int.add_mul, Int.mul_add]
  omega
theorem dD.refl (k : Nat) (f : Nat → Int) : dD k f f 0 := ⟨fun _ _ => rfl, (Int.add_zero _).symm⟩
theorem dD.pw {k : Nat} {f f' : Nat → Int} {a : Int} (hk : 1 ≤ k) (h : dD k f f' a) (e : Nat) : dD k (pw f (e + 1)) (pw f' (e + 1)) (((e : Int) + 1) * f 0 ^ e * a) := by
  induction e with
  | zero =>
    rw [pw_1, pw_1, Int.pow_zero]
    simpa using h
  | succ e ih =>
    have h2 := dD.mul hk ih h
    rw [pw_s, pw_s f']
    rw [pw_z] at h2
    have e1 : ((e : Int) + 1) * f 0 ^ e * a * f 0 + f 0 ^ (e + 1) * a = (((e + 1 : Nat) : Int) + 1) * f 0 ^ (e + 1) * a := by
      rw [Int.pow_succ, Int.natCast_add, Int.add_mul ((e : Int) + ((1 : Nat) : Int)), Int.add_mul _ _ a]
      have q1 : ((e : Int) + 1) * f 0 ^ e * a * f 0 = ((e : Int) + ((1 : Nat) : Int)) * (f 0 ^ e * f 0) * a := by
        rw [Int.mul_assoc _ a, Int.mul_comm a, ← Int.mul_assoc, Int.mul_assoc _ (f 0 ^ e)]; rfl
      rw [q1, Int.one_mul]
    rw [e1] at h2
    exact h2
/-- a number with an inverse can be taken off -/
theorem unit_off {p a b x : Int} (hab : p ∣ a * b - 1) (h : p ∣ a * x) : p ∣ x := by
  have h1 : p ∣ (a * b - 1) * x := Int.dvd_mul_of_dvd_left hab
  have h2 : p ∣ b * (a * x) := Int.dvd_mul_of_dvd_right h
  have h3 := Int.dvd_sub h2 h1
  rwa [show b * (a * x) - (a * b - 1) * x = x by rw [Int.sub_mul, ← Int.mul_assoc, Int.mul_comm b a]; omega] at h3
theorem red_eq {p a b : Int} (h : p ∣ a - b) (ha : 0 ≤ a ∧ a < p) (hb : 0 ≤ b ∧ b < p) : a = b := by
  have h2 := dvd_emod.mp h
  rwa [Int.emod_eq_of_lt ha.1 ha.2, Int.emod_eq_of_lt hb.1 hb.2] at h2
/-! roots: only one with that first number -/
theorem root_uniq {p : Int} {n e : Nat} {y z f : Nat → Int} {w : Int} (h0 : y 0 = z 0) (hw : p ∣ ((e : Int) + 1) * z 0 ^ e * w - 1) (hy : pE p n (pw y (e + 1)) f) (hz : pE p n (pw z (e + 1)) f) (ry : ∀ i, i < n → 0 ≤ y i ∧ y i < p) (rz : ∀ i, i < n → 0 ≤ z i ∧ z i < p) : ∀ i, i < n → y i = z i := by
  intro i
  induction i using Nat.strongRecOn with
  | ind k ih =>
    intro hk
    by_cases hk0 : k = 0
    · subst hk0; exact h0
    · have hD : dD k z y (y k - z k) := ⟨fun j hj => ih j hj (by omega), by omega⟩
      have h2 := (hD.pw (by omega) e).2
      have h3 := (hy.trans hz.symm) k hk
      rw [h2, show pw z (e + 1) k + ((e : Int) + 1) * z 0 ^ e * (y k - z k) - pw z (e + 1) k = ((e : Int) + 1) * z 0 ^ e * (y k - z k) by omega] at h3
      exact red_eq (unit_off hw h3) (ry k hk) (rz k hk)
/-- place by place -/
def ppl (F : Nat → (Nat → Int) → Int) (h : Int) : Nat → (Nat → Int)
  | 0 => fun i => if i = 0 then h else 0
  | k + 1 => fun i => if i = k + 1 then F (k + 1) (ppl F h k) else ppl F h k i
section ZPP
variable {F : Nat → (Nat → Int) → Int} {h p : Int}
theorem ppl_s (k : Nat) : ppl F h (k + 1) (k + 1) = F (k + 1) (ppl F h k) := by rw [ppl]; exact if_pos rfl
theorem ppl_n {k i : Nat} (hi : i ≠ k + 1) : ppl F h (k + 1) i = ppl F h k i := by rw [ppl]; exact if_neg hi
theorem ppl_hi : ∀ (k i : Nat), k < i → ppl F h k i = 0
  | 0, i, h1 => by rw [ppl]; exact if_neg (by omega)
  | k + 1, i, h1 => by rw [ppl_n (by omega)]; exact ppl_hi k i (by omega)
theorem ppl_z : ∀ k : Nat, ppl F h k 0 = h
  | 0 => by rw [ppl]; exact if_pos rfl
  | k + 1 => by rw [ppl_n (by omega)]; exact ppl_z k
theorem ppl_lo : ∀ (k m i : Nat), k ≤ m → i ≤ k → ppl F h m i = ppl F h k i
  | k, 0, i, h1, hi => by rw [show k = 0 by omega]
  | k, m + 1, i, h1, hi => by
    by_cases hk : k = m + 1
    · rw [hk]
    · rw [ppl_n (by omega)]
      exact ppl_lo k m i (by omega) hi
theorem ppl_red (hp : 0 < p) (hh : 0 ≤ h ∧ h < p) (hF : ∀ k y, 0 ≤ F k y ∧ F k y < p) : ∀ k i : Nat, 0 ≤ ppl F h k i ∧ ppl F h k i < p
  | 0, i => by
    rw [ppl]
    dsimp only
    by_cases h0 : i = 0
    · rw [if_pos h0]; exact hh
    · rw [if_neg h0]; omega
  | k + 1, i => by
    by_cases hk : i = k + 1
    · rw [hk, ppl_s]; exact hF _ _
    · rw [ppl_n hk]; exact ppl_red hp hh hF k i
theorem ppl_D (k : Nat) : dD (k + 1) (ppl F h k) (ppl F h (k + 1)) (F (k + 1) (ppl F h k)) := by
  refine ⟨fun j hj => by rw [ppl_n (by omega)], ?_⟩
  rw [ppl_hi k (k + 1) (by omega), ppl_s, Int.zero_add]
end ZPP
/-- what a place needs: by a number with an inverse -/
theorem step_fit {p A step t P c : Int} (hs : p ∣ A * step - 1) (ht : t = ((c - P) * step) % p) : p ∣ P + A * t - c := by
  have h3 := Int.emod_add_mul_ediv ((c - P) * step) p
  rw [← ht] at h3
  generalize ((c - P) * step) / p = u at h3
  have h4 : t = (c - P) * step - p * u := by omega
  subst h4
  have h5 : p ∣ (A * step - 1) * (c - P) := Int.dvd_mul_of_dvd_left hs
  have h6 : p ∣ A * (p * u) := Int.dvd_mul_of_dvd_right (Int.dvd_mul_right p u)
  have h7 := Int.dvd_sub h5 h6
  rwa [show (A * step - 1) * (c - P) - A * (p * u) = P + A * ((c - P) * step - p * u) - c by
    rw [Int.sub_mul, Int.mul_sub A, Int.mul_assoc, Int.mul_comm step, Int.one_mul]; omega] at h7
def rootF (p : Int) (f : Nat → Int) (e : Nat) (step : Int) (k : Nat) (y : Nat → Int) : Int := ((f k - pw y (e + 1) k) * step) % p
theorem root_ok {p : Int} {f : Nat → Int} {e : Nat} {step head : Int} (hs : p ∣ ((e : Int) + 1) * head ^ e * step - 1) (h0 : p ∣ head ^ (e + 1) - f 0) : ∀ k : Nat, pE p (k + 1) (pw (ppl (rootF p f e step) head k) (e + 1)) f
  | 0 => fun i hi => by
    rw [show i = 0 by omega, pw_z, ppl_z]
    exact h0
  | k + 1 => fun i hi => by
    have ih := root_ok hs h0 k
    have h2 := (ppl_D (F := rootF p f e step) (h := head) k).pw (by omega) e
    by_cases hi2 : i < k + 1
    · rw [h2.1 i hi2]; exact ih i hi2
    · rw [show i = k + 1 by omega, h2.2, ppl_z]
      exact step_fit hs rfl
/-! equations of degree three -/
def cub (a0 a1 a2 a3 y : Nat → Int) (i : Nat) : Int := a0 i + cv a1 y i + cv a2 (cv y y) i + cv a3 (cv (cv y y) y) i
def slo (a1 a2 a3 v : Int) : Int := a1 + 2 * a2 * v + 3 * a3 * (v * v)
theorem dD_cub {k : Nat} {a0 a1 a2 a3 y y' : Nat → Int} {a : Int} (hk : 1 ≤ k) (h : dD k y y' a) : dD k (cub a0 a1 a2 a3 y) (cub a0 a1 a2 a3 y') (slo (a1 0) (a2 0) (a3 0) (y 0) * a) := by
  have h1 := dD.mul hk (dD.refl k a1) h
  have h2 := dD.mul hk h h
  have h3 := dD.mul hk (dD.refl k a2) h2
  have h4 := dD.mul hk (dD.refl k a3) (dD.mul hk h2 h)
  refine ⟨fun i hi => ?_, ?_⟩
  · unfold cub
    rw [h1.1 i hi, h3.1 i hi, h4.1 i hi]
  · unfold cub
    rw [h1.2, h3.2, h4.2, cv_0]
    unfold slo
    grind
theorem cub_uniq {p : Int} {n : Nat} {a0 a1 a2 a3 y z : Nat → Int} {w : Int} (h0 : y 0 = z 0) (hw : p ∣ slo (a1 0) (a2 0) (a3 0) (z 0) * w - 1) (hy : pE p n (cub a0 a1 a2 a3 y) (fun _ => 0)) (hz : pE p n (cub a0 a1 a2 a3 z) (fun _ => 0)) (ry : ∀ i, i < n → 0 ≤ y i ∧ y i < p) (rz : ∀ i, i < n → 0 ≤ z i ∧ z i < p) : ∀ i, i < n → y i = z i := by
  intro i
  induction i using Nat.strongRecOn with
  | ind k ih =>
    intro hk
    by_cases hk0 : k = 0
    · subst hk0; exact h0
    · have hD : dD k z y (y k - z k) := ⟨fun j hj => ih j hj (by omega), by omega⟩
      have h2 := (dD_cub (a0 := a0) (a1 := a1) (a2 := a2) (a3 := a3) (by omega) hD).2
      have h3 := (hy.trans hz.symm) k hk
      rw [h2] at h3
      have h4 : p ∣ slo (a1 0) (a2 0) (a3 0) (z 0) * (y k - z k) := by
        rwa [Int.add_comm, Int.add_sub_cancel] at h3
      exact red_eq (unit_off hw h4) (ry k hk) (rz k hk)
def cubF (p : Int) (a0 a1 a2 a3 : Nat → Int) (step : Int) (k : Nat) (y : Nat → Int) : Int := (-(cub a0 a1 a2 a3 y k % p) * step) % p
theorem cub_ok {p : Int} {a0 a1 a2 a3 : Nat → Int} {step head : Int} (hs : p ∣ slo (a1 0) (a2 0) (a3 0) head * step - 1) (h0 : p ∣ cub a0 a1 a2 a3 (fun i => if i = 0 then head else 0) 0) : ∀ k : Nat, pE p (k + 1) (cub a0 a1 a2 a3 (ppl (cubF p a0 a1 a2 a3 step) head k)) (fun _ => 0)
  | 0 => fun i hi => by
    rw [show i = 0 by omega, Int.sub_zero]
    exact h0
  | k + 1 => fun i hi => by
    have ih := cub_ok hs h0 k
    have h2 := dD_cub (a0 := a0) (a1 := a1) (a2 := a2) (a3 := a3) (by omega) (ppl_D (F := cubF p a0 a1 a2 a3 step) (h := head) k)
    by_cases hi2 : i < k + 1
    · rw [h2.1 i hi2]; exact ih i hi2
    · rw [show i = k + 1 by omega, h2.2, ppl_z]
      have h3 : ∀ y : Nat → Int, cubF p a0 a1 a2 a3 step (k + 1) y = ((0 - cub a0 a1 a2 a3 y (k + 1)) * step) % p := by
        intro y
        unfold cubF
        apply dvd_emod.mp
        have h4 := Int.emod_add_mul_ediv (cub a0 a1 a2 a3 y (k + 1)) p
        refine ⟨cub a0 a1 a2 a3 y (k + 1) / p * step, ?_⟩
        rw [← Int.sub_mul, ← Int.mul_assoc]
        congr 1
        omega
      exact step_fit hs (h3 _)
