/-! sums -/
def sm (f : Nat → Int) : Nat → Int
  | 0 => 0
  | n + 1 => sm f n + f n
theorem sm_s (f : Nat → Int) (n : Nat) : sm f (n + 1) = sm f n + f n := rfl
theorem sm_congr {f g : Nat → Int} : ∀ {n : Nat}, (∀ i, i < n → f i = g i) → sm f n = sm g n
  | 0, _ => rfl
  | n + 1, h => by rw [sm_s, sm_s, sm_congr (fun i hi => h i (Nat.lt_succ_of_lt hi)), h n (Nat.lt_succ_self n)]
theorem sm_add (f g : Nat → Int) (n : Nat) : sm (fun i => f i + g i) n = sm f n + sm g n := by
  induction n with
  | zero => rfl
  | succ n ih => rw [sm_s, sm_s, sm_s, ih]; omega
theorem sm_sub (f g : Nat → Int) (n : Nat) : sm (fun i => f i - g i) n = sm f n - sm g n := by
  induction n with
  | zero => rfl
  | succ n ih => rw [sm_s, sm_s, sm_s, ih]; omega
theorem sm_mul (c : Int) (f : Nat → Int) (n : Nat) : sm (fun i => c * f i) n = c * sm f n := by
  induction n with
  | zero => exact (Int.mul_zero c).symm
  | succ n ih => rw [sm_s, sm_s, ih, Int.mul_add]
theorem sm_mulr (c : Int) (f : Nat → Int) (n : Nat) : sm (fun i => f i * c) n = sm f n * c := by
  induction n with
  | zero => exact (Int.zero_mul c).symm
  | succ n ih => rw [sm_s, sm_s, ih, Int.add_mul]
theorem sm_zero {f : Nat → Int} : ∀ {n : Nat}, (∀ i, i < n → f i = 0) → sm f n = 0
  | 0, _ => rfl
  | n + 1, h => by rw [sm_s, sm_zero (fun i hi => h i (Nat.lt_succ_of_lt hi)), h n (Nat.lt_succ_self n)]; rfl
theorem sm_head (f : Nat → Int) (n : Nat) : sm f (n + 1) = f 0 + sm (fun i => f (i + 1)) n := by
  induction n with
  | zero => rw [sm_s]; show 0 + f 0 = f 0 + 0; omega
  | succ n ih => rw [sm_s, ih, sm_s]; omega
theorem sm_split (f : Nat → Int) (a b : Nat) : sm f (a + b) = sm f a + sm (fun i => f (a + i)) b := by
  induction b with
  | zero => show sm f a = sm f a + 0; omega
  | succ b ih => rw [← Nat.add_assoc, sm_s, ih, sm_s]; omega
theorem sm_more {f : Nat → Int} {n m : Nat} (hm : n ≤ m) (h : ∀ i, n ≤ i → i < m → f i = 0) : sm f m = sm f n := by
  obtain ⟨k, rfl⟩ := Nat.exists_eq_add_of_le hm
  rw [sm_split, sm_zero (n := k) (fun i hi => h (n + i) (by omega) (by omega))]
  omega
theorem sm_one {f : Nat → Int} {n j : Nat} (hj : j < n) (h : ∀ i, i < n → i ≠ j → f i = 0) : sm f n = f j := by
  rw [sm_more (n := j + 1) (by omega) (fun i h1 h2 => h i h2 (by omega)), sm_s, sm_zero (fun i hi => h i (by omega) (by omega))]
  omega
theorem sm_rev (f : Nat → Int) : ∀ n : Nat, sm (fun i => f (n - i)) (n + 1) = sm f (n + 1)
  | 0 => rfl
  | n + 1 => by
    rw [sm_head, sm_s f (n + 1), ← sm_rev f n]
    have h : sm (fun i => f (n + 1 - (i + 1))) (n + 1) = sm (fun i => f (n - i)) (n + 1) := sm_congr (fun i _ => by rw [show n + 1 - (i + 1) = n - i by omega])
    rw [h]
    show f (n + 1 - 0) + _ = _ + f (n + 1)
    rw [Nat.sub_zero]
    omega
theorem sm_tri (T : Nat → Nat → Int) : ∀ k : Nat, sm (fun i => sm (fun j => T j (i - j)) (i + 1)) (k + 1) = sm (fun j => sm (fun l => T j l) (k - j + 1)) (k + 1)
  | 0 => rfl
  | k + 1 => by
    rw [sm_s, sm_tri T k, sm_s (fun j => sm (fun l => T j l) (k + 1 - j + 1)) (k + 1)]
    have h : sm (fun j => sm (fun l => T j l) (k + 1 - j + 1)) (k + 1) = sm (fun j => sm (fun l => T j l) (k - j + 1) + T j (k + 1 - j)) (k + 1) :=
      sm_congr (fun j hj => by rw [show k + 1 - j = k - j + 1 by omega, sm_s _ (k - j + 1)])
    rw [h, sm_add, sm_s (fun j => T j (k + 1 - j)) (k + 1), Nat.sub_self]
    show _ + (sm (fun j => T j (k + 1 - j)) (k + 1) + T (k + 1) 0) = _ + _ + (0 + T (k + 1) 0)
    omega
theorem sm_dvd {p : Int} {f : Nat → Int} : ∀ {n : Nat}, (∀ i, i < n → p ∣ f i) → p ∣ sm f n
  | 0, _ => Int.dvd_zero p
  | n + 1, h => Int.dvd_add (sm_dvd (fun i hi => h i (Nat.lt_succ_of_lt hi))) (h n (Nat.lt_succ_self n))
theorem sm_bd {f : Nat → Int} {B : Int} : ∀ {n : Nat}, (∀ i, i < n → 0 ≤ f i ∧ f i ≤ B) → 0 ≤ sm f n ∧ sm f n ≤ n * B
  | 0, _ => by show (0 : Int) ≤ 0 ∧ (0 : Int) ≤ ((0 : Nat) : Int) * B; simp
  | n + 1, h => by
    have h1 := sm_bd (fun i hi => h i (Nat.lt_succ_of_lt hi))
    have h2 := h n (Nat.lt_succ_self n)
    rw [sm_s, Int.natCast_add, Int.add_mul]
    show 0 ≤ _ ∧ _ ≤ _ + 1 * B
    omega
theorem sm_emod (f : Nat → Int) (p : Int) (n : Nat) : sm (fun i => f i % p) n % p = sm f n % p := by
  induction n with
  | zero => rfl
  | succ n ih => rw [sm_s, sm_s, Int.add_emod, ih, Int.emod_emod, ← Int.add_emod]
/-! power series: products -/
def cv (f g : Nat → Int) (k : Nat) : Int := sm (fun i => f i * g (k - i)) (k + 1)
def p1 : Nat → Int := fun i => if i = 0 then 1 else 0
theorem cv_comm (f g : Nat → Int) : cv f g = cv g f := by
  funext k
  unfold cv
  rw [← sm_rev]
  exact sm_congr (fun i hi => by rw [show k - (k - i) = i by omega, Int.mul_comm])
theorem cv_assoc (f g h : Nat → Int) : cv (cv f g) h = cv f (cv g h) := by
  funext k
  show sm (fun i => sm (fun j => f j * g (i - j)) (i + 1) * h (k - i)) (k + 1) = sm (fun j => f j * sm (fun l => g l * h (k - j - l)) (k - j + 1)) (k + 1)
  have e1 := sm_tri (fun j l => f j * g l * h (k - (j + l))) k
  have e2 : sm (fun i => sm (fun j => f j * g (i - j)) (i + 1) * h (k - i)) (k + 1) = sm (fun i => sm (fun j => f j * g (i - j) * h (k - (j + (i - j)))) (i + 1)) (k + 1) :=
    sm_congr (fun i _ => by
      rw [← sm_mulr]
      exact sm_congr (fun j hj => by rw [show j + (i - j) = i by omega]))
  have e3 : sm (fun j => f j * sm (fun l => g l * h (k - j - l)) (k - j + 1)) (k + 1) = sm (fun j => sm (fun l => f j * g l * h (k - (j + l))) (k - j + 1)) (k + 1) :=
    sm_congr (fun j _ => by
      rw [← sm_mul]
      exact sm_congr (fun l _ => by rw [Nat.sub_sub, Int.mul_assoc]))
  rw [e2, e3]
  exact e1
theorem cv_one (f : Nat → Int) : cv p1 f = f := by
  funext k
  unfold cv
  rw [sm_one (j := 0) (Nat.succ_pos k) (fun i _ hi => by unfold p1; rw [if_neg hi, Int.zero_mul])]
  unfold p1
  rw [if_pos rfl, Int.one_mul, Nat.sub_zero]
theorem cv_oner (f : Nat → Int) : cv f p1 = f := by rw [cv_comm, cv_one]
theorem cv_add (f g h : Nat → Int) : cv f (fun i => g i + h i) = fun i => cv f g i + cv f h i := by
  funext k
  unfold cv
  rw [← sm_add]
  exact sm_congr (fun i _ => Int.mul_add _ _ _)
theorem cv_sub (f g h : Nat → Int) : cv f (fun i => g i - h i) = fun i => cv f g i - cv f h i := by
  funext k
  unfold cv
  rw [← sm_sub]
  exact sm_congr (fun i _ => Int.mul_sub _ _ _)
theorem cv_smul (c : Int) (f g : Nat → Int) : cv f (fun i => c * g i) = fun i => c * cv f g i := by
  funext k
  unfold cv
  rw [← sm_mul]
  exact sm_congr (fun i _ => by rw [← Int.mul_assoc, ← Int.mul_assoc, Int.mul_comm c])
theorem cv_0 (f g : Nat → Int) : cv f g 0 = f 0 * g 0 := by
  show 0 + f 0 * g (0 - 0) = _
  rw [Int.zero_add]
def pw (f : Nat → Int) : Nat → (Nat → Int)
  | 0 => p1
  | k + 1 => cv (pw f k) f
theorem pw_s (f : Nat → Int) (k : Nat) : pw f (k + 1) = cv (pw f k) f := rfl
theorem pw_1 (f : Nat → Int) : pw f 1 = f := cv_one f
theorem pw_add (f : Nat → Int) (a b : Nat) : pw f (a + b) = cv (pw f a) (pw f b) := by
  induction b with
  | zero => exact (cv_oner _).symm
  | succ b ih => rw [← Nat.add_assoc, pw_s, ih, cv_assoc, pw_s]
theorem pw_mul (f : Nat → Int) (a b : Nat) : pw f (a * b) = pw (pw f a) b := by
  induction b with
  | zero => rfl
  | succ b ih => rw [Nat.mul_succ, pw_add, ih, pw_s]
theorem pw_one (k : Nat) : pw p1 k = p1 := by
  induction k with
  | zero => rfl
  | succ k ih => rw [pw_s, ih, cv_one]
theorem pw_cv (f g : Nat → Int) (k : Nat) : pw (cv f g) k = cv (pw f k) (pw g k) := by
  induction k with
  | zero => exact (cv_one p1).symm
  | succ k ih => rw [pw_s, ih, pw_s, pw_s, cv_assoc, ← cv_assoc (pw g k), cv_comm (pw g k) f, cv_assoc f, ← cv_assoc]
theorem pw_z (f : Nat → Int) (k : Nat) : pw f k 0 = f 0 ^ k := by
  induction k with
  | zero => rw [Int.pow_zero]; rfl
  | succ k ih => rw [pw_s, cv_0, ih, Int.pow_succ]
/-! alike by a prime, so many places -/
def pE (p : Int) (n : Nat) (f g : Nat → Int) : Prop := ∀ i, i < n → p ∣ f i - g i
section ZPE
variable {p : Int} {n m : Nat} {f g h f' g' : Nat → Int}
theorem pE.refl (p : Int) (n : Nat) (f : Nat → Int) : pE p n f f := fun i _ => by rw [Int.sub_self]; exact Int.dvd_zero p
theorem pE.of (h : ∀ i, i < n → f i = g i) : pE p n f g := fun i hi => by rw [h i hi, Int.sub_self]; exact Int.dvd_zero p
theorem pE.symm (h : pE p n f g) : pE p n g f := fun i hi => by
  have := Int.dvd_neg.mpr (h i hi)
  rwa [Int.neg_sub] at this
theorem pE.trans (h1 : pE p n f g) (h2 : pE p n g h) : pE p n f h := fun i hi => by
  have := Int.dvd_add (h1 i hi) (h2 i hi)
  rwa [show f i - g i + (g i - h i) = f i - h i by omega] at this
theorem pE.le (h : pE p n f g) (hm : m ≤ n) : pE p m f g := fun i hi => h i (Nat.lt_of_lt_of_le hi hm)
theorem pE.add (h1 : pE p n f g) (h2 : pE p n f' g') : pE p n (fun i => f i + f' i) (fun i => g i + g' i) := fun i hi => by
  have := Int.dvd_add (h1 i hi) (h2 i hi)
  rwa [show f i - g i + (f' i - g' i) = f i + f' i - (g i + g' i) by omega] at this
theorem pE.sub (h1 : pE p n f g) (h2 : pE p n f' g') : pE p n (fun i => f i - f' i) (fun i => g i - g' i) := fun i hi => by
  have := Int.dvd_sub (h1 i hi) (h2 i hi)
  rwa [show f i - g i - (f' i - g' i) = f i - f' i - (g i - g' i) by omega] at this
theorem pE.smul (c : Int) (h1 : pE p n f g) : pE p n (fun i => c * f i) (fun i => c * g i) := fun i hi => by
  have := Int.dvd_mul_of_dvd_right (h1 i hi) (b := c)
  rwa [Int.mul_sub] at this
theorem pE.mod (p : Int) (n : Nat) (f : Nat → Int) : pE p n (fun i => f i % p) f := fun i _ => by
  have := Int.emod_add_mul_ediv (f i) p
  show p ∣ f i % p - f i
  exact ⟨-(f i / p), by rw [Int.mul_neg]; omega⟩
theorem pE.mul (h1 : pE p n f g) (h2 : pE p n f' g') : pE p n (cv f f') (cv g g') := fun k hk => by
  unfold cv
  rw [← sm_sub]
  refine sm_dvd (fun i hi => ?_)
  have e : f i * f' (k - i) - g i * g' (k - i) = (f i - g i) * f' (k - i) + g i * (f' (k - i) - g' (k - i)) := by
    rw [Int.sub_mul, Int.mul_sub]
    omega
  rw [e]
  exact Int.dvd_add (Int.dvd_mul_of_dvd_left (h1 i (by omega))) (Int.dvd_mul_of_dvd_right (h2 (k - i) (by omega)))
theorem pE.pw (h1 : pE p n f g) (k : Nat) : pE p n (pw f k) (pw g k) := by
  induction k with
  | zero => exact pE.refl _ _ _
  | succ k ih => exact ih.mul h1
/-- two that are 0 so far: their product is 0 as far as both together -/
theorem pE.mul0 (h1 : pE p n f (fun _ => 0)) (h2 : pE p m g (fun _ => 0)) : pE p (n + m) (cv f g) (fun _ => 0) := fun k hk => by
  rw [Int.sub_zero]
  refine sm_dvd (fun i hi => ?_)
  by_cases h : i < n
  · have := h1 i h
    rw [Int.sub_zero] at this
    exact Int.dvd_mul_of_dvd_left this
  · have := h2 (k - i) (by omega)
    rw [Int.sub_zero] at this
    exact Int.dvd_mul_of_dvd_right this
theorem pE.eq (hp : 0 < p) (h : pE p n f g) (hf : ∀ i, i < n → 0 ≤ f i ∧ f i < p) (hg : ∀ i, i < n → 0 ≤ g i ∧ g i < p) : ∀ i, i < n → f i = g i := fun i hi => by
  have e := Int.emod_emod_of_dvd (f i) (Int.dvd_refl p)
  have h2 : f i % p = g i % p := Int.emod_eq_emod_iff_emod_sub_eq_zero.mpr (Int.emod_eq_zero_of_dvd (h i hi))
  rwa [Int.emod_eq_of_lt (hf i hi).1 (hf i hi).2, Int.emod_eq_of_lt (hg i hi).1 (hg i hi).2] at h2
end ZPE
theorem dvd_emod {p a b : Int} : p ∣ a - b ↔ a % p = b % p := ⟨fun h => Int.emod_eq_emod_iff_emod_sub_eq_zero.mpr (Int.emod_eq_zero_of_dvd h), fun h => Int.dvd_of_emod_eq_zero (Int.emod_eq_emod_iff_emod_sub_eq_zero.mp h)⟩
/-- the ring of power series -/
def psR : Lean.Grind.CommRing (Nat → Int) where
  add := fun f g i => f i + g i
  mul := cv
  natCast := ⟨fun n i => if i = 0 then (n : Int) else 0⟩
  ofNat := fun n => ⟨fun i => if i = 0 then (n : Int) else 0⟩
  nsmul := ⟨fun n f => cv (fun i => if i = 0 then (n : Int) else 0) f⟩
  npow := ⟨pw⟩
  neg := fun f i => - f i
  sub := fun f g i => f i - g i
  intCast := ⟨fun n i => if i = 0 then n else 0⟩
  zsmul := ⟨fun n f => cv (fun i => if i = 0 then n else 0) f⟩
  add_zero := fun a => by funext i; show a i + (if i = 0 then ((0 : Nat) : Int) else 0) = a i; split <;> simp
  add_comm := fun a b => by funext i; exact Int.add_comm _ _
  add_assoc := fun a b c => by funext i; exact Int.add_assoc _ _ _
  mul_assoc := cv_assoc
  mul_one := fun a => cv_oner a
  one_mul := fun a => cv_one a
  right_distrib := fun a b c => by
    show cv (fun i => a i + b i) c = fun i => cv a c i + cv b c i
    rw [cv_comm, cv_add, cv_comm c a, cv_comm c b]
  mul_zero := fun a => by
    funext k
    show cv a (fun i => if i = 0 then ((0 : Nat) : Int) else 0) k = (if k = 0 then ((0 : Nat) : Int) else 0)
    rw [show cv a (fun i => if i = 0 then ((0 : Nat) : Int) else 0) k = 0 from sm_zero (fun i _ => by dsimp only; split <;> simp)]
    split <;> rfl
  left_distrib := fun a b c => cv_add a b c
  zero_mul := fun a => by
    funext k
    show cv (fun i => if i = 0 then ((0 : Nat) : Int) else 0) a k = (if k = 0 then ((0 : Nat) : Int) else 0)
    rw [show cv (fun i => if i = 0 then ((0 : Nat) : Int) else 0) a k = 0 from sm_zero (fun i _ => by dsimp only; split <;> simp)]
    split <;> rfl
  pow_zero := fun _ => rfl
  pow_succ := fun _ _ => rfl
  ofNat_succ := fun n => by funext i; show (if i = 0 then ((n + 1 : Nat) : Int) else 0) = (if i = 0 then (n : Int) else 0) + (if i = 0 then ((1 : Nat) : Int) else 0); split <;> simp
  ofNat_eq_natCast := fun _ => rfl
  nsmul_eq_natCast_mul := fun _ _ => rfl
  neg_add_cancel := fun a => by funext i; show -a i + a i = (if i = 0 then ((0 : Nat) : Int) else 0); split <;> omega
  sub_eq_add_neg := fun a b => by funext i; exact Int.sub_eq_add_neg
  neg_zsmul := fun n a => by
    funext k
    show cv (fun i => if i = 0 then -n else 0) a k = -cv (fun i => if i = 0 then n else 0) a k
    unfold cv
    rw [sm_one (j := 0) (Nat.succ_pos k) (fun i _ hi => by dsimp only; rw [if_neg hi, Int.zero_mul]), sm_one (j := 0) (Nat.succ_pos k) (fun i _ hi => by dsimp only; rw [if_neg hi, Int.zero_mul])]
    dsimp only
    rw [if_pos rfl, if_pos rfl, Int.neg_mul]
  zsmul_natCast_eq_nsmul := fun _ _ => rfl
  intCast_ofNat := fun _ => rfl
  intCast_neg := fun n => by funext i; show (if i = 0 then -n else 0) = -(if i = 0 then n else 0); split <;> simp
  mul_comm := cv_comm
theorem cub_tay {R : Type} [Lean.Grind.CommRing R] (a0 a1 a2 a3 y e : R) :
    a0 + a1 * (y - e) + a2 * ((y - e) * (y - e)) + a3 * ((y - e) * (y - e) * (y - e)) = (a0 + a1 * y + a2 * (y * y) + a3 * (y * y * y)) - (a1 + 2 * (a2 * y) + 3 * (a3 * (y * y))) * e + e * e * (a2 + 3 * (a3 * y) - a3 * e) := by grind
