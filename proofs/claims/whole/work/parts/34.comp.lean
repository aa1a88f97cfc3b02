/-! compositions and reversions -/
def cp (f g : Nat → Int) (k : Nat) : Int := sm (fun j => f j * pw g j k) (k + 1)
theorem pw_lo {g : Nat → Int} (h0 : g 0 = 0) : ∀ j k : Nat, k < j → pw g j k = 0
  | 0, k, h => absurd h (Nat.not_lt_zero k)
  | j + 1, k, h => by
    rw [pw_s]
    refine sm_zero (fun i hi => ?_)
    by_cases hj : i < j
    · rw [pw_lo h0 j i hj, Int.zero_mul]
    · rw [show k - i = 0 by omega, h0, Int.mul_zero]
theorem cp_more {f g : Nat → Int} (h0 : g 0 = 0) {k n : Nat} (h : k < n) : sm (fun j => f j * pw g j k) n = cp f g k :=
  sm_more (by omega) (fun i h1 _ => by rw [pw_lo h0 i k (by omega), Int.mul_zero])
theorem sm_swap (F : Nat → Nat → Int) (a b : Nat) : sm (fun i => sm (fun j => F i j) b) a = sm (fun j => sm (fun i => F i j) a) b := by
  induction a with
  | zero => exact (sm_zero (fun j _ => rfl)).symm
  | succ a ih => rw [sm_s, ih, ← sm_add]; rfl
theorem sm_prod (f g : Nat → Int) (a b : Nat) : sm f a * sm g b = sm (fun i => sm (fun j => f i * g j) b) a := by
  rw [← sm_mulr]
  exact sm_congr (fun i _ => (sm_mul _ _ _).symm)
/-- a square's sum is a triangle's, if all beyond is 0 -/
theorem sq_tri (T : Nat → Nat → Int) (n : Nat) (h : ∀ j l, n < j + l → T j l = 0) : sm (fun j => sm (fun l => T j l) (n + 1)) (n + 1) = sm (fun m => sm (fun j => T j (m - j)) (m + 1)) (n + 1) := by
  rw [sm_tri]
  refine sm_congr (fun j hj => ?_)
  exact sm_more (by omega) (fun i h1 _ => h j i (by omega))
theorem cp_cv {a b g : Nat → Int} (h0 : g 0 = 0) : cp (cv a b) g = cv (cp a g) (cp b g) := by
  funext k
  have e1 : cv (cp a g) (cp b g) k = sm (fun i => sm (fun j => sm (fun l => (a j * pw g j i) * (b l * pw g l (k - i))) (k + 1)) (k + 1)) (k + 1) := by
    refine sm_congr (fun i hi => ?_)
    rw [← cp_more (f := a) h0 (n := k + 1) (by omega), ← cp_more (f := b) h0 (n := k + 1) (by omega), sm_prod]
  have e2 : sm (fun i => sm (fun j => sm (fun l => (a j * pw g j i) * (b l * pw g l (k - i))) (k + 1)) (k + 1)) (k + 1) = sm (fun j => sm (fun l => (a j * b l) * pw g (j + l) k) (k + 1)) (k + 1) := by
    rw [sm_swap]
    refine sm_congr (fun j _ => ?_)
    rw [sm_swap]
    refine sm_congr (fun l _ => ?_)
    rw [pw_add]
    unfold cv
    rw [← sm_mul]
    exact sm_congr (fun i _ => by
      rw [Int.mul_assoc, Int.mul_assoc, ← Int.mul_assoc (pw g j i), Int.mul_comm (pw g j i) (b l), Int.mul_assoc])
  rw [e1, e2, sq_tri _ k (fun j l h => by rw [pw_lo h0 _ _ h, Int.mul_zero])]
  refine sm_congr (fun m _ => ?_)
  show sm (fun i => a i * b (m - i)) (m + 1) * pw g m k = _
  rw [← sm_mulr]
  exact sm_congr (fun j hj => by rw [show j + (m - j) = m by omega])
theorem cp_one (g : Nat → Int) : cp p1 g = p1 := by
  funext k
  unfold cp
  rw [sm_one (j := 0) (Nat.succ_pos k) (fun i _ hi => by unfold p1; rw [if_neg hi, Int.zero_mul])]
  show (if (0 : Nat) = 0 then (1 : Int) else 0) * p1 k = p1 k
  rw [if_pos rfl, Int.one_mul]
theorem cp_pw {f g : Nat → Int} (h0 : g 0 = 0) (j : Nat) : cp (pw f j) g = pw (cp f g) j := by
  induction j with
  | zero => exact cp_one g
  | succ j ih => rw [pw_s, cp_cv h0, ih, pw_s]
theorem cp_assoc {f g h : Nat → Int} (hg : g 0 = 0) (hh : h 0 = 0) : cp (cp f g) h = cp f (cp g h) := by
  have h00 : cp g h 0 = 0 := by
    show 0 + g 0 * pw h 0 0 = 0
    rw [hg, Int.zero_mul]
    rfl
  funext k
  have e1 : cp (cp f g) h k = sm (fun i => sm (fun j => f j * pw g j i * pw h i k) (k + 1)) (k + 1) :=
    sm_congr (fun i hi => by rw [← cp_more (f := f) hg (n := k + 1) (by omega), sm_mulr])
  rw [e1, sm_swap]
  refine sm_congr (fun j _ => ?_)
  rw [← cp_pw hh]
  unfold cp
  rw [← sm_mul]
  exact sm_congr (fun i _ => Int.mul_assoc _ _ _)
def pX : Nat → Int := fun i => if i = 1 then 1 else 0
theorem cv_X (f : Nat → Int) (k : Nat) : cv f pX k = if k = 0 then 0 else f (k - 1) := by
  cases k with
  | zero => rw [cv_0, if_pos rfl]; unfold pX; simp
  | succ k =>
    unfold cv
    rw [sm_one (j := k) (by omega) (fun i h1 h2 => by unfold pX; rw [if_neg (by omega), Int.mul_zero]), if_neg (by omega), show k + 1 - k = 1 by omega]
    unfold pX
    rw [if_pos rfl, Int.mul_one]
    rfl
theorem pw_X : ∀ j k : Nat, pw pX j k = if k = j then 1 else 0
  | 0, k => rfl
  | j + 1, k => by
    rw [pw_s, cv_X]
    cases k with
    | zero => rw [if_pos rfl, if_neg (by omega)]
    | succ k =>
      rw [if_neg (by omega), Nat.add_sub_cancel, pw_X j k]
      by_cases h : k = j
      · rw [if_pos h, if_pos (by omega)]
      · rw [if_neg h, if_neg (by omega)]
theorem cp_X (f : Nat → Int) : cp f pX = f := by
  funext k
  unfold cp
  rw [sm_one (j := k) (by omega) (fun i h1 h2 => by rw [pw_X, if_neg (by omega), Int.mul_zero]), pw_X, if_pos rfl, Int.mul_one]
theorem X_cp {g : Nat → Int} (h0 : g 0 = 0) : cp pX g = g := by
  funext k
  rw [← cp_more h0 (n := k + 2) (by omega), sm_one (j := 1) (by omega) (fun i h1 h2 => by unfold pX; rw [if_neg h2, Int.zero_mul]), pw_1]
  unfold pX
  rw [if_pos rfl, Int.one_mul]
theorem cp_E {p : Int} {n : Nat} {f f' g g' : Nat → Int} (hf : pE p n f f') (hg : pE p n g g') : pE p n (cp f g) (cp f' g') := fun k hk => by
  unfold cp
  rw [← sm_sub]
  refine sm_dvd (fun j hj => ?_)
  have e : f j * pw g j k - f' j * pw g' j k = (f j - f' j) * pw g j k + f' j * (pw g j k - pw g' j k) := by
    rw [Int.sub_mul, Int.mul_sub]
    omega
  rw [e]
  exact Int.dvd_add (Int.dvd_mul_of_dvd_left (hf j (by omega))) (Int.dvd_mul_of_dvd_right (hg.pw j k hk))
/-- what reverts from the left and what reverts from the right is one -/
theorem rev_uniq {p : Int} {n : Nat} {f g h : Nat → Int} (hf : f 0 = 0) (hg : g 0 = 0) (h1 : pE p n (cp h f) pX) (h2 : pE p n (cp f g) pX) : pE p n h g := by
  have a1 : pE p n (cp (cp h f) g) g := by
    have := cp_E h1 (pE.refl p n g)
    rwa [X_cp hg] at this
  have a2 : pE p n (cp h (cp f g)) h := by
    have := cp_E (pE.refl p n h) h2
    rwa [cp_X] at this
  rw [cp_assoc hf hg] at a1
  exact a2.symm.trans a1
/-! the one by which it is x, place by place: a start 0, then its first number's inverse -/
def revF (p : Int) (f : Nat → Int) (head : Int) (k : Nat) (y : Nat → Int) : Int := if k = 1 then head else (-(cp f y k % p) * head) % p
theorem dD_cp {k : Nat} {f y y' : Nat → Int} {a : Int} (hk : 1 ≤ k) (h0 : y 0 = 0) (h : dD k y y' a) : dD k (cp f y) (cp f y') (f 1 * a) := by
  have hp : ∀ j, dD k (pw y j) (pw y' j) (if j = 1 then a else 0) := by
    intro j
    cases j with
    | zero => exact dD.refl k p1
    | succ j =>
      have h2 := h.pw hk j
      cases j with
      | zero => simpa using h2
      | succ j => rw [h0, Int.pow_succ, Int.mul_zero, Int.mul_zero, Int.zero_mul] at h2; rw [if_neg (by omega)]; exact h2
  refine ⟨fun i hi => sm_congr (fun j _ => by rw [(hp j).1 i hi]), ?_⟩
  unfold cp
  have e : sm (fun j => f j * pw y' j k) (k + 1) = sm (fun j => f j * pw y j k + f j * (if j = 1 then a else 0)) (k + 1) := sm_congr (fun j _ => by rw [(hp j).2, Int.mul_add])
  rw [e, sm_add, sm_one (f := fun j => f j * (if j = 1 then a else 0)) (j := 1) (by omega) (fun i _ hi => by rw [if_neg hi, Int.mul_zero])]
  rw [if_pos rfl]
theorem rev_ok {p : Int} {f : Nat → Int} {head : Int} (hf0 : f 0 = 0) (hh : p ∣ f 1 * head - 1) : ∀ k : Nat, pE p (k + 1) (cp f (ppl (revF p f head) 0 k)) pX
  | 0 => fun i hi => by
    rw [show i = 0 by omega]
    show p ∣ 0 + f 0 * pw (ppl (revF p f head) 0 0) 0 0 - 0
    rw [hf0, Int.zero_mul]
    exact Int.dvd_zero p
  | k + 1 => fun i hi => by
    have ih := rev_ok hf0 hh k
    have h2 := dD_cp (f := f) (by omega) (ppl_z k) (ppl_D (F := revF p f head) (h := 0) k)
    by_cases hi2 : i < k + 1
    · rw [h2.1 i hi2]; exact ih i hi2
    · rw [show i = k + 1 by omega, h2.2]
      generalize hy : ppl (revF p f head) 0 k = y
      by_cases hk : k = 0
      · subst hk
        have e1 : revF p f head (0 + 1) y = head := if_pos rfl
        have e2 : pX (0 + 1) = 1 := rfl
        have e3 : cp f y (0 + 1) = 0 := by
          show 0 + f 0 * pw y 0 1 + f 1 * pw y 1 1 = 0
          have : y 1 = 0 := by rw [← hy]; exact ppl_hi 0 1 (by omega)
          rw [pw_1, this, hf0]
          simp
        rw [e1, e2, e3, Int.zero_add]
        exact hh
      · have e2 : pX (k + 1) = 0 := if_neg (by omega)
        have e1 : revF p f head (k + 1) y = ((0 - cp f y (k + 1)) * head) % p := by
          unfold revF
          rw [if_neg (by omega)]
          apply dvd_emod.mp
          have h4 := Int.emod_add_mul_ediv (cp f y (k + 1)) p
          refine ⟨cp f y (k + 1) / p * head, ?_⟩
          rw [← Int.sub_mul, ← Int.mul_assoc]
          congr 1
          omega
        rw [e2]
        exact step_fit hh e1
