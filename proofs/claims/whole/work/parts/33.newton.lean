/-! twice as many places -/
def cst (z : Int) : Nat → Int := fun i => if i = 0 then z else 0
theorem cst_cv (z : Int) (f : Nat → Int) : cv (cst z) f = fun i => z * f i := by
  funext k
  unfold cv
  rw [sm_one (j := 0) (Nat.succ_pos k) (fun i _ hi => by unfold cst; rw [if_neg hi, Int.zero_mul])]
  unfold cst
  rw [if_pos rfl, Nat.sub_zero]
theorem cst_1 : cst 1 = p1 := rfl
theorem cst_s (z : Int) : (fun i => cst z i + p1 i) = cst (z + 1) := by
  funext i
  unfold cst p1
  split <;> simp
theorem newton_g {p : Int} {m m' : Nat} {G0 G1 S E q slope inv gap : Nat → Int} (hm : m' ≤ m + m) (hmm : m ≤ m') (hT : G1 = fun i => G0 i - cv S E i + cv (cv E E) q i) (hg : pE p m' gap G0) (h0 : pE p m G0 (fun _ => 0)) (hs : pE p m' slope S) (hi : pE p m' (cv slope inv) p1) (hE : E = cv gap inv) : pE p m' G1 (fun _ => 0) := by
  have e0 : pE p m E (fun _ => 0) := by
    rw [hE]
    exact (pE.mul0 (m := 0) ((hg.le hmm).trans h0) (fun i hi => absurd hi (Nat.not_lt_zero i)) : pE p (m + 0) _ _)
  have e1 : pE p m' (cv (cv E E) q) (fun _ => 0) := ((pE.mul0 (m := 0) (pE.mul0 e0 e0) (fun i hi => absurd hi (Nat.not_lt_zero i)) : pE p (m + m + 0) _ _)).le hm
  have e2 : pE p m' (cv S E) G0 := by
    have a1 : pE p m' (cv S E) (cv slope E) := pE.mul hs.symm (pE.refl _ _ _)
    have a2 : cv slope E = cv (cv slope inv) gap := by rw [hE, cv_comm gap inv, cv_assoc]
    rw [a2] at a1
    have a3 := a1.trans (pE.mul hi (pE.refl _ _ gap))
    rw [cv_one] at a3
    exact a3.trans hg
  rw [hT]
  have e3 := ((pE.refl p m' G0).sub e2).add e1
  refine e3.trans (pE.of (fun i _ => ?_))
  show G0 i - G0 i + 0 = 0
  omega
theorem tay_step {R : Type} [Lean.Grind.CommRing R] (A Y y E q c Z : R) (hA : A = Y * y) (h : Z = A - c * Y * E + E * E * q) : Z * (y - E) = A * y - (c + 1) * A * E + E * E * (q * y - q * E + c * Y) := by grind
theorem tay_pw (y E : Nat → Int) : ∀ k : Nat, ∃ q, pw (fun i => y i - E i) (k + 1) = fun i => pw y (k + 1) i - cv (cv (cst ((k : Int) + 1)) (pw y k)) E i + cv (cv E E) q i
  | 0 => by
    refine ⟨fun _ => 0, ?_⟩
    rw [pw_1, pw_1]
    funext i
    have e1 : cv (cv (cst (((0 : Nat) : Int) + 1)) (pw y 0)) E = E := by
      show cv (cv p1 p1) E = E
      rw [cv_one, cv_one]
    have e2 : cv (cv E E) (fun _ => 0) i = 0 := sm_zero (fun j _ => Int.mul_zero _)
    rw [e1, e2]
    omega
  | k + 1 => by
    obtain ⟨q, hq⟩ := tay_pw y E k
    have h := @tay_step (Nat → Int) psR (pw y (k + 1)) (pw y k) y E q (cst ((k : Int) + 1)) (pw (fun i => y i - E i) (k + 1)) rfl hq
    refine ⟨fun i => cv q y i - cv q E i + cv (cst ((k : Int) + 1)) (pw y k) i, h.trans ?_⟩
    have e : (((k + 1 : Nat) : Int) + 1) = ((k : Int) + 1) + 1 := by omega
    rw [e, ← cst_s ((k : Int) + 1)]
    rfl
theorem newton_root {p : Int} {m m' e : Nat} {y f slope inv gap y' : Nat → Int} (hm : m' ≤ m + m) (hmm : m ≤ m') (h0 : pE p m (pw y (e + 1)) f) (hg : pE p m' gap (fun i => pw y (e + 1) i - f i)) (hs : pE p m' slope (fun i => ((e : Int) + 1) * pw y e i)) (hi : pE p m' (cv slope inv) p1) (hy : pE p m' y' (fun i => y i - cv gap inv i)) : pE p m' (pw y' (e + 1)) f := by
  obtain ⟨q, hq⟩ := tay_pw y (cv gap inv) e
  have h1 : pE p m' (fun i => pw (fun i => y i - cv gap inv i) (e + 1) i - f i) (fun _ => 0) := by
    refine newton_g (G0 := fun i => pw y (e + 1) i - f i) (S := cv (cst ((e : Int) + 1)) (pw y e)) (E := cv gap inv) (q := q) (slope := slope) (inv := inv) (gap := gap) hm hmm ?_ hg ?_ ?_ hi rfl
    · funext i
      rw [hq]
      dsimp only
      omega
    · intro i hi
      have := h0 i hi
      show p ∣ pw y (e + 1) i - f i - 0
      rwa [Int.sub_zero]
    · rw [cst_cv]; exact hs
  have h2 := hy.pw (e + 1)
  intro i hi
  have a1 := h1 i hi
  have a2 := h2 i hi
  have a3 := Int.dvd_add a1 a2
  rwa [show pw (fun i => y i - cv gap inv i) (e + 1) i - f i - 0 + (pw y' (e + 1) i - pw (fun i => y i - cv gap inv i) (e + 1) i) = pw y' (e + 1) i - f i by omega] at a3
theorem cub_ring {R : Type} [Lean.Grind.CommRing R] (a0 a1 a2 a3 y e : R) :
    a0 + a1 * (y - e) + a2 * ((y - e) * (y - e)) + a3 * ((y - e) * (y - e) * (y - e)) = (a0 + a1 * y + a2 * (y * y) + a3 * (y * y * y)) - ((3 * a3 * y + 2 * a2) * y + a1) * e + e * e * (a2 + 3 * (a3 * y) - a3 * e) := by grind
theorem cub_horner {R : Type} [Lean.Grind.CommRing R] (a0 a1 a2 a3 y : R) : ((a3 * y + a2) * y + a1) * y + a0 = a0 + a1 * y + a2 * (y * y) + a3 * (y * y * y) := by grind
theorem cub_hor (a0 a1 a2 a3 y : Nat → Int) : (fun i => cv (fun i => cv (fun i => cv a3 y i + a2 i) y i + a1 i) y i + a0 i) = cub a0 a1 a2 a3 y := @cub_horner (Nat → Int) psR a0 a1 a2 a3 y
theorem cub_tayl (a0 a1 a2 a3 y E : Nat → Int) : cub a0 a1 a2 a3 (fun i => y i - E i) = fun i => cub a0 a1 a2 a3 y i - cv (fun i => cv (fun i => cv (cv (cst 3) a3) y i + cv (cst 2) a2 i) y i + a1 i) E i + cv (cv E E) (fun i => a2 i + cv (cst 3) (cv a3 y) i - cv a3 E i) i := @cub_ring (Nat → Int) psR a0 a1 a2 a3 y E
theorem cub_E {p : Int} {n : Nat} {a0 a1 a2 a3 y z : Nat → Int} (h : pE p n y z) : pE p n (cub a0 a1 a2 a3 y) (cub a0 a1 a2 a3 z) :=
  (((pE.refl p n a0).add ((pE.refl p n a1).mul h)).add ((pE.refl p n a2).mul (h.mul h))).add ((pE.refl p n a3).mul ((h.mul h).mul h))
theorem newton_cub {p : Int} {m m' : Nat} {a0 a1 a2 a3 y slope inv gap y' : Nat → Int} (hm : m' ≤ m + m) (hmm : m ≤ m') (h0 : pE p m (cub a0 a1 a2 a3 y) (fun _ => 0)) (hg : pE p m' gap (fun i => cv (fun i => cv (fun i => cv a3 y i + a2 i) y i + a1 i) y i + a0 i)) (hs : pE p m' slope (fun i => cv (fun i => cv (fun i => 3 * a3 i) y i + 2 * a2 i) y i + a1 i)) (hi : pE p m' (cv slope inv) p1) (hy : pE p m' y' (fun i => y i - cv gap inv i)) : pE p m' (cub a0 a1 a2 a3 y') (fun _ => 0) := by
  rw [cub_hor] at hg
  have h1 : pE p m' (cub a0 a1 a2 a3 (fun i => y i - cv gap inv i)) (fun _ => 0) := by
    refine newton_g (G0 := cub a0 a1 a2 a3 y) (slope := slope) (inv := inv) (gap := gap) hm hmm (cub_tayl a0 a1 a2 a3 y (cv gap inv)) hg h0 ?_ hi rfl
    rw [cst_cv, cst_cv]; exact hs
  exact (cub_E hy).trans h1
/-- the inverse, place by place -/
def invF (p : Int) (f : Nat → Int) (head : Int) (k : Nat) (y : Nat → Int) : Int := (-(cv f y k) * head) % p
theorem inv_ok {p : Int} {f : Nat → Int} {head : Int} (hh : p ∣ f 0 * head - 1) : ∀ k : Nat, pE p (k + 1) (cv f (ppl (invF p f head) head k)) p1
  | 0 => fun i hi => by
    rw [show i = 0 by omega, cv_0, ppl_z]
    exact hh
  | k + 1 => fun i hi => by
    have ih := inv_ok hh k
    have h2 := dD.mul (by omega) (dD.refl (k + 1) f) (ppl_D (F := invF p f head) (h := head) k)
    by_cases hi2 : i < k + 1
    · rw [h2.1 i hi2]; exact ih i hi2
    · rw [show i = k + 1 by omega, h2.2, Int.zero_mul, Int.zero_add]
      have h3 : p1 (k + 1) = 0 := if_neg (by omega)
      rw [h3]
      refine step_fit hh ?_
      unfold invF
      rw [Int.zero_sub]
