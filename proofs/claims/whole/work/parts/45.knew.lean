/-! as far as it matters -/
def kA (I : qI) (p x m : Nat) (F : Nat → Int) : Prop := ∃ l q, kS I x l q ∧ okS p l q ∧ m ≤ l ∧ pE p m q F
theorem kS.kA {I : qI} {p x m : Nat} {c : Nat → Int} (h : kS I x m c) (ho : okS p m c) : kA I p x m c := ⟨m, c, h, ho, Nat.le_refl _, pE.refl _ _ _⟩
theorem kA.frame {I I' : qI} {p x m : Nat} {F : Nat → Int} (h : kA I p x m F) (h1 : I' x = I x) (h2 : I' (x + 1) = I (x + 1)) : kA I' p x m F := by
  obtain ⟨l, q, a1, a2⟩ := h
  exact ⟨l, q, a1.frame h1 h2, a2⟩
theorem kA.to {I : qI} {p x m : Nat} {F G : Nat → Int} (h : kA I p x m F) (h2 : pE p m F G) : kA I p x m G := by
  obtain ⟨l, q, a1, a2, a3, a4⟩ := h
  exact ⟨l, q, a1, a2, a3, a4.trans h2⟩
theorem kA.of {I : qI} {p x n m : Nat} {c : Nat → Int} (h : kS I x n c) (ho : okS p n c) (hm : m ≤ n) : kA I p x m c := ⟨n, c, h, ho, hm, pE.refl _ _ _⟩
theorem zx_E {p n m : Nat} {f : Nat → Int} (h : m ≤ n) : pE p m (zx p n f) f := fun i hi => by
  rw [zx_lt (by omega)]
  exact pE.mod p m f i hi
section KNEW
variable {d : Nat} {g : qG} {I : qI} {J : qJ} {Q : qQ} {p M n m x x1 x2 : Nat} {c e F G : Nat → Int}
theorem a_mul (hs : qSh g) (hx1 : qSer g x1) (hx2 : qSer g x2) (h13 : 13 < x1) (hd : x1 ≠ x2 + 1 ∧ x2 ≠ x1 + 1) (hr : kR I p M) (hm : 1 ≤ m ∧ m ≤ M) (A1 : kA I p x1 m F) (A2 : kA I p x2 m G) (k : ∀ I', kA I' p x1 m (cv F G) → (∀ b, b ≠ x1 → b ≠ x1 + 1 → I' b = I b) → Q none g I' J) : qC (d + 1) 9 [.ref 12, .ref x1, .ref x2] g I J Q := by
  obtain ⟨l, q, a1, a2, a3, a4⟩ := A1
  obtain ⟨l2, q2, b1, b2, b3, b4⟩ := A2
  have hp := hr.p2
  have hM := hr.2.2.2
  have hL : m ≤ mln M l q l2 q2 ∧ mln M l q l2 q2 ≤ 24 := by unfold mln; omega
  exact k_mul hs hx1 hx2 h13 hd hr a1 b1 a2 b2 (by omega) (fun I' c1 c2 => k I' ⟨_, _, c1, zx_ok (by omega) hL.2, hL.1, (zx_E hL.1).trans (a4.mul b4)⟩ c2)
theorem a_add (hs : qSh g) (hx1 : qSer g x1) (hx2 : qSer g x2) (h13 : 13 < x1) (hd : dj x1 x2) (hr : kR I p M) {fac : Int} (hf : 0 ≤ fac ∧ fac ≤ p) {w : Int32} (hw : w = iI fac) (A1 : kA I p x1 m F) (A2 : kA I p x2 m G) (k : ∀ I', kA I' p x1 m (fun i => F i + fac * G i) → (∀ b, b ≠ x1 → b ≠ x1 + 1 → I' b = I b) → Q none g I' J) : qC d 7 [.ref 12, .ref x1, .ref x2, .int w] g I J Q := by
  obtain ⟨l, q, a1, a2, a3, a4⟩ := A1
  obtain ⟨l2, q2, b1, b2, b3, b4⟩ := A2
  have hp := hr.p2
  have h1 := a2.1
  exact k_addT hs hx1 hx2 hr h13 hd hf hw a1 b1 a2 b2 (fun I' c1 c2 => k I' ⟨_, _, c1, zx_ok (by omega) (by omega), by omega, (zx_E (by omega)).trans (a4.add (b4.smul fac))⟩ c2)
theorem a_scale (hs : qSh g) (hx : qSer g x) (h13 : 13 < x) (hr : kR I p M) {fac : Int} (hf : 0 ≤ fac ∧ fac ≤ 997) {w : Int32} (hw : w = iI fac) (A1 : kA I p x m F) (k : ∀ I', kA I' p x m (fun i => fac * F i) → (∀ b, b ≠ x + 1 → I' b = I b) → Q none g I' J) : qC d 19 [.ref 12, .ref x, .int w] g I J Q := by
  obtain ⟨l, q, a1, a2, a3, a4⟩ := A1
  have hp := hr.p2
  refine k_scale hs hx h13 hr hf hw a1 a2 (fun I' c1 c2 => k I' ⟨_, _, c1, zx_ok (by omega) a2.1, a3, (zx_E a3).trans ?_⟩ c2)
  have := a4.smul fac
  refine (pE.of (fun i _ => ?_)).trans this
  exact Int.mul_comm _ _
theorem a_copy (hx1 : qSer g x1) (hx2 : qSer g x2) (hd : x2 ≠ x1 + 1) (A : kA I p x2 m F) (k : ∀ I', kA I' p x1 m F → (∀ b, b ≠ x1 → b ≠ x1 + 1 → I' b = I b) → Q none g I' J) : qC d 74 [.ref x1, .ref x2] g I J Q := by
  obtain ⟨l, q, a1, a2, a3, a4⟩ := A
  exact k_copy hx1 hx2 hd a1 a2.1 (fun I' b1 b2 => k I' ⟨l, q, b1, a2, a3, a4⟩ b2)
/-- the step of Newton: less the gap by the slope -/
theorem k_lift (hs : qSh g) (hr : kR I p M) (hm : 1 ≤ m ∧ m ≤ M) {y S Gp : Nat → Int} (hy : kS I 18 m y) (oy : okS p m y) (hg : kA I p 20 m Gp) (hS : kA I p 22 m S) (hS0 : ¬ (p : Int) ∣ S 0)
    (k : ∀ I' y' iw, kS I' 18 m y' → okS p m y' → pE p m (cv S iw) p1 → pE p m y' (fun i => y i - cv Gp iw i) → (∀ b, b ≠ 13 → b ≠ 18 → b ≠ 19 → b ≠ 20 → b ≠ 21 → b ≠ 22 → b ≠ 23 → I' b = I b) → Q none g I' J) : qC (d + 2) 20 [.ref 12] g I J Q := by
  obtain ⟨l, q, a1, a2, a3, a4⟩ := hS
  have hp := hr.p2
  have hM := hr.2.2.2
  have s18 : qSer g 18 := hs.ser rfl (by omega)
  have s20 : qSer g 20 := hs.ser rfl (by omega)
  have s22 : qSer g 22 := hs.ser rfl (by omega)
  refine w20 hs (k_short s22 a1 a2.1 (m := m) hy.1 (by omega) (fun I1 b1 b2 => ⟨rfl, ?_⟩))
  have el : min l m = m := by omega
  rw [el] at b1
  have o1 : okS p m (fun i => if i < m then q i else 0) := ⟨by omega, fun i => by dsimp only; split; exact a2.2.1 i; omega, fun i hi => if_neg (by omega)⟩
  have hr1 : kR I1 p M := hr.frame (b2 12 (by omega))
  generalize hq' : (fun i => if i < m then q i else 0) = q' at b1 o1
  have eq' : pE p m q' S := (pE.of (fun i hi => by rw [← hq']; exact if_pos hi)).trans a4
  refine k_invt hs s22 (by omega) hr1 b1 o1 hm.1 (fun I2 c1 c2 => ⟨rfl, ?_⟩)
  have hr2 : kR I2 p M := hr1.frame (c2 12 (by omega) (by omega))
  have h0 : q' 0 ≠ 0 := fun h => hS0 (by
    have := (eq'.symm) 0 (by omega)
    rwa [h, Int.sub_zero] at this)
  have hiv := inv_ok (hr.2.2.1.ivu h0 (o1.2.1 0)) (m - 1)
  rw [show m - 1 + 1 = m by omega] at hiv
  have hiv2 : pE p m (cv S (sInv p m q')) p1 := (pE.mul eq'.symm (pE.refl _ _ _)).trans hiv
  have oI := sInv_ok (p := p) (c := q') (by omega) hm.1 (show m ≤ 24 by omega)
  refine a_mul hs s20 s22 (by omega) (by omega) hr2 hm (hg.frame (by rw [c2 20 (by omega) (by omega), b2 20 (by omega)]) (by rw [c2 21 (by omega) (by omega), b2 21 (by omega)])) (c1.kA oI) (fun I3 d1 d2 => ⟨rfl, ?_⟩)
  have hr3 : kR I3 p M := hr2.frame (d2 12 (by omega) (by omega))
  obtain ⟨l4, q4, g1, g2, g3, g4⟩ := d1
  have hy3 : kS I3 18 m y := hy.frame (by rw [d2 18 (by omega) (by omega), c2 18 (by omega) (by omega), b2 18 (by omega)]) (by rw [d2 19 (by omega) (by omega), c2 19 (by omega) (by omega), b2 19 (by omega)])
  refine k_addT (fac := (p : Int) - 1) hs s18 s20 hr3 (by omega) (by unfold dj; omega) (by omega) (by rw [hr3.1, nI_iI, iI_sub]; rfl) hy3 g1 oy g2 (fun I4 e1 e2 => ⟨rfl, ?_⟩)
  rw [show min m l4 = m by omega] at e1
  refine k I4 _ _ e1 (zx_ok (by omega) (by omega)) hiv2 ((zx_E (Nat.le_refl _)).trans ?_) (fun b f1 f2 f3 f4 f5 f6 f7 => by rw [e2 b f2 f3, d2 b f4 f5, c2 b f1 f7, b2 b f6])
  intro i hi
  have h9 := g4 i hi
  have h10 := Int.dvd_sub (Int.dvd_mul_right (p : Int) (q4 i)) h9
  rwa [show (p : Int) * q4 i - (q4 i - cv Gp (sInv p m q') i) = y i + ((p : Int) - 1) * q4 i - (y i - cv Gp (sInv p m q') i) by rw [Int.sub_mul, Int.one_mul]; omega] at h10
/-! roots -/
def rt (p k : Nat) (c0 : Int) : Nat → Nat → Nat
  | 0, s => s
  | f + 1, s => if (s : Int) ^ k % p = c0 then s else rt p k c0 f (s + 1)
def rt0 (p k : Nat) (c0 : Int) : Nat := rt p k c0 (p - 1) 1
theorem rt_spec (p k : Nat) (c0 : Int) : ∀ f s : Nat, s ≤ rt p k c0 f s ∧ rt p k c0 f s ≤ s + f ∧ (rt p k c0 f s < s + f → ((rt p k c0 f s : Nat) : Int) ^ k % p = c0)
  | 0, s => ⟨Nat.le_refl _, Nat.le_refl _, fun h => absurd (show s < s + 0 from h) (by omega)⟩
  | f + 1, s => by
    unfold rt
    by_cases h : (s : Int) ^ k % p = c0
    · rw [if_pos h]; exact ⟨Nat.le_refl _, by omega, fun _ => h⟩
    · rw [if_neg h]
      have := rt_spec p k c0 f (s + 1)
      exact ⟨by omega, by omega, fun h2 => this.2.2 (by omega)⟩
def stp (p k h : Nat) : Int := iv p ((k : Int) * (h : Int) ^ (k - 1) % p)
def sRoot (p n k : Nat) (c : Nat → Int) : Nat → Int := ppl (rootF p c (k - 1) (stp p k (rt0 p k (c 0)))) (rt0 p k (c 0)) (n - 1)
def whyRoot (p k : Nat) (c : Nat → Int) : Int := if c 0 = 0 then 2 else if (k : Int) % p = 0 then 3 else if rt0 p k (c 0) = p then 4 else -1
theorem root_unit {p k h : Nat} (hp : pr p) (hk : (k : Int) % p ≠ 0) (h1 : 1 ≤ h) (h2 : h < p) : ¬ (p : Int) ∣ (k : Int) * (h : Int) ^ (k - 1) := by
  intro hd
  rcases hp.mul hd with a | a
  · exact hk (Int.emod_eq_zero_of_dvd a)
  · have := Int.le_of_dvd (by omega) (hp.pow a)
    omega
theorem stp_unit {p k h : Nat} (hp : pr p) (hk : (k : Int) % p ≠ 0) (h1 : 1 ≤ h) (h2 : h < p) : (p : Int) ∣ (k : Int) * (h : Int) ^ (k - 1) * stp p k h - 1 := by
  have hp2 := hp.two
  have hn : (k : Int) * (h : Int) ^ (k - 1) % p ≠ 0 := fun e => root_unit hp hk h1 h2 (Int.dvd_of_emod_eq_zero e)
  have := hp.ivu hn ⟨Int.emod_nonneg _ (by omega), Int.emod_lt_of_pos _ (by omega)⟩
  apply dvd_emod.mpr
  rw [← em_l]
  exact dvd_emod.mp this
theorem sRoot_ok {p n k : Nat} {c : Nat → Int} (hn : 1 ≤ n) (h24 : n ≤ 24) (hh : rt0 p k (c 0) < p) : okS p n (sRoot p n k c) :=
  ⟨h24, ppl_red (by omega) (by omega) (fun k y => ⟨Int.emod_nonneg _ (by omega), Int.emod_lt_of_pos _ (by omega)⟩) _, fun i hi => ppl_hi _ _ (by omega)⟩
theorem k_root_n (hs : qSh g) (hx : qSer g x) (h13 : 32 < x) (hr : kR I p M) (h1 : kS I x n c) (ho : okS p n c) (hnM : n ≤ M) {e h : Nat} (he : 1 ≤ e ∧ e < 100) (hk : ((e + 1 : Nat) : Int) % p ≠ 0) (hh : 1 ≤ h ∧ h < p) {i3 : Int32}
    (k : ∀ I' y, kS I' x n y → okS p n y → y 0 = (h : Int) → pE p n (pw y (e + 1)) c → (∀ b, b ≠ x → b ≠ x + 1 → b ≠ 13 → b ≠ 16 → b ≠ 17 → b ≠ 18 → b ≠ 19 → b ≠ 20 → b ≠ 21 → b ≠ 22 → b ≠ 23 → I' b = I b) → Q (some (.int (-1))) g I' J) :
    ∀ (f P : Nat) (I' : qI) (y : Nat → Int), n < P + f → 1 ≤ P → P ≤ 48 → 1 ≤ n → kS I' 18 (min P n) y → okS p (min P n) y → y 0 = (h : Int) → pE p (min P n) (pw y (e + 1)) c → (∀ b, b ≠ 13 → b ≠ 16 → b ≠ 17 → b ≠ 18 → b ≠ 19 → b ≠ 20 → b ≠ 21 → b ≠ 22 → b ≠ 23 → I' b = I b) →
      qev (d + 3) 18 (84, [.ref 12, .ref x, .int (nI (e + 1)), .int i3, .int (nI P)], [], g, I', J) Q
  | 0, P, I', y, hf, hP, hP2, hn1, hy, oy, hy0, hE, hfr => by
    -- all places are there
    have hx1 : kS I' x n c := h1.frame (hfr x (by omega) (by omega) (by omega) (by omega) (by omega) (by omega) (by omega) (by omega) (by omega)) (hfr (x + 1) (by omega) (by omega) (by omega) (by omega) (by omega) (by omega) (by omega) (by omega) (by omega))
    have h24 := ho.1
    have em : min P n = n := by omega
    rw [em] at hy oy hE
    refine w18_84 hs hx ⟨fun _ => k_copy hx (hs.ser rfl (by omega)) (by omega) hy h24 (fun I1 a1 a2 => ⟨rfl, k I1 y a1 oy hy0 hE (fun b b1 b2 b3 b4 b5 b6 b7 b8 b9 b10 b11 => by rw [a2 b b1 b2]; exact hfr b b3 b4 b5 b6 b7 b8 b9 b10 b11)⟩), fun h3 => ?_⟩
    rw [hx1.1, nI_leI (by omega) (by omega)] at h3; omega
  | f + 1, P, I', y, hf, hP, hP2, hn1, hy, oy, hy0, hE, hfr => by
    have hx1 : kS I' x n c := h1.frame (hfr x (by omega) (by omega) (by omega) (by omega) (by omega) (by omega) (by omega) (by omega) (by omega)) (hfr (x + 1) (by omega) (by omega) (by omega) (by omega) (by omega) (by omega) (by omega) (by omega) (by omega))
    have hr1 : kR I' p M := hr.frame (hfr 12 (by omega) (by omega) (by omega) (by omega) (by omega) (by omega) (by omega) (by omega) (by omega))
    have h24 := ho.1
    have hp := hr.p2
    have s18 : qSer g 18 := hs.ser rfl (by omega)
    have s20 : qSer g 20 := hs.ser rfl (by omega)
    have s22 : qSer g 22 := hs.ser rfl (by omega)
    refine w18_84 hs hx ⟨fun h3 => ?_, fun h3 => ?_⟩
    · rw [hx1.1, nI_leI (by omega) (by omega)] at h3
      have em : min P n = n := by omega
      rw [em] at hy oy hE
      exact k_copy hx s18 (by omega) hy h24 (fun I1 a1 a2 => ⟨rfl, k I1 y a1 oy hy0 hE (fun b b1 b2 b3 b4 b5 b6 b7 b8 b9 b10 b11 => by rw [a2 b b1 b2]; exact hfr b b3 b4 b5 b6 b7 b8 b9 b10 b11)⟩)
    · rw [hx1.1, nI_leI (by omega) (by omega)] at h3
      have em : min P n = P := by omega
      rw [em] at hy oy hE
      rw [hx1.1, pk_mul, qmin_nI (by omega) (by omega)]
      generalize hm : min (2 * P) n = m
      have hm1 : 1 ≤ m ∧ m ≤ M ∧ P ≤ m ∧ m ≤ P + P ∧ m ≤ n := by omega
      have oy' : okS p m y := ⟨by omega, oy.2.1, fun i hi => oy.2.2 i (by omega)⟩
      refine k_widen s18 hy oy hm1.2.2.1 (by omega) (fun I2 a1 a2 => ⟨rfl, k_copy s22 s18 (by omega) a1 (by omega) (fun I3 b1 b2 => ⟨rfl, ?_⟩)⟩)
      have hr3 : kR I3 p M := hr1.frame (by rw [b2 12 (by omega) (by omega), a2 12 (by omega) (by omega)])
      rw [pk_sub (by omega), Nat.add_sub_cancel]
      refine k_raise hs s22 (by omega) hr3 b1 oy' hm1.1 hm1.2.1 (by omega) (fun I4 c1 c2 => ⟨rfl, ?_⟩)
      have hr4 : kR I4 p M := hr3.frame (c2 12 (by omega) (by omega) (by omega) (by omega))
      have hpl : m ≤ pL M (od m y) m e ∧ pL M (od m y) m e ≤ M := by
        refine ⟨?_, pL_le _ _ _ _⟩
        unfold pL
        rw [if_neg (by omega)]
        generalize (e - 1) * od m y = z
        omega
      have A22 : kA I4 p 22 m (pw y e) := ⟨_, _, c1, pC_ok (by omega) hr.2.2.2.2 _, hpl.1, zx_E hpl.1⟩
      refine a_copy s20 s22 (by omega) A22 (fun I5 d1 d2 => ⟨rfl, ?_⟩)
      have hr5 : kR I5 p M := hr4.frame (d2 12 (by omega) (by omega))
      have y5 : kS I5 18 m y := a1.frame (by rw [d2 18 (by omega) (by omega), c2 18 (by omega) (by omega) (by omega) (by omega), b2 18 (by omega) (by omega)]) (by rw [d2 19 (by omega) (by omega), c2 19 (by omega) (by omega) (by omega) (by omega), b2 19 (by omega) (by omega)])
      refine a_mul hs s20 s18 (by omega) (by omega) hr5 ⟨hm1.1, hm1.2.1⟩ d1 (y5.kA oy') (fun I6 e1 e2 => ⟨rfl, ?_⟩)
      have hr6 : kR I6 p M := hr5.frame (e2 12 (by omega) (by omega))
      have x6 : kS I6 x n c := hx1.frame (by rw [e2 x (by omega) (by omega), d2 x (by omega) (by omega), c2 x (by omega) (by omega) (by omega) (by omega), b2 x (by omega) (by omega), a2 x (by omega) (by omega)]) (by rw [e2 (x + 1) (by omega) (by omega), d2 (x + 1) (by omega) (by omega), c2 (x + 1) (by omega) (by omega) (by omega) (by omega), b2 (x + 1) (by omega) (by omega), a2 (x + 1) (by omega) (by omega)])
      refine a_add (fac := (p : Int) - 1) hs s20 hx (by omega) (by unfold dj; omega) hr6 (by omega) (by rw [hr6.1, nI_iI, iI_sub]; rfl) e1 (kA.of x6 ho hm1.2.2.2.2) (fun I7 f1 f2 => ⟨rfl, ?_⟩)
      have hr7 : kR I7 p M := hr6.frame (f2 12 (by omega) (by omega))
      have A22' : kA I7 p 22 m (pw y e) := A22.frame (by rw [f2 22 (by omega) (by omega), e2 22 (by omega) (by omega), d2 22 (by omega) (by omega)]) (by rw [f2 23 (by omega) (by omega), e2 23 (by omega) (by omega), d2 23 (by omega) (by omega)])
      refine a_scale (fac := ((e + 1 : Nat) : Int)) hs s22 (by omega) hr7 (by omega) (nI_iI _) A22' (fun I8 g1 g2 => ⟨rfl, ?_⟩)
      have hr8 : kR I8 p M := hr7.frame (g2 12 (by omega))
      have y8 : kS I8 18 m y := y5.frame (by rw [g2 18 (by omega), f2 18 (by omega) (by omega), e2 18 (by omega) (by omega)]) (by rw [g2 19 (by omega), f2 19 (by omega) (by omega), e2 19 (by omega) (by omega)])
      refine k_lift hs hr8 ⟨hm1.1, hm1.2.1⟩ y8 oy' (f1.frame (g2 20 (by omega)) (g2 21 (by omega))) g1 ?_ (fun I9 y' iw l1 l2 l3 l4 l5 => ⟨rfl, ?_⟩)
      · have h9 := root_unit (p := p) (k := e + 1) (h := h) hr.2.2.1 hk hh.1 hh.2
        rw [Nat.add_sub_cancel] at h9
        rw [pw_z, hy0]
        exact h9
      · rw [pk_mul]
        have hg : pE p m (fun i => cv (pw y e) y i + ((p : Int) - 1) * c i) (fun i => pw y (e + 1) i - c i) := fun i _ => by
          rw [pw_s]
          refine ⟨c i, ?_⟩
          dsimp only
          rw [Int.sub_mul, Int.one_mul]
          omega
        have hy2 := newton_root (p := p) (m := P) (m' := m) (e := e) (y := y) (f := c) (slope := fun i => ((e + 1 : Nat) : Int) * pw y e i) (inv := iw) (gap := fun i => cv (pw y e) y i + ((p : Int) - 1) * c i) (y' := y') hm1.2.2.2.1 hm1.2.2.1 hE hg (pE.of (fun i _ => by rw [Int.natCast_add]; rfl)) l3 l4
        have h00 : y' 0 = (h : Int) := by
          generalize (fun i => cv (pw y e) y i + ((p : Int) - 1) * c i) = gp at l4 hg
          have q1 := l4 0 (by omega)
          have q2 := hg 0 (by omega)
          have q3 := hE 0 (by omega)
          dsimp only at q1 q2
          rw [cv_0] at q1
          have q4 := Int.dvd_mul_of_dvd_left (c := iw 0) (Int.dvd_add q2 q3)
          rw [Int.sub_add_cancel] at q4
          have q5 := Int.dvd_sub q1 q4
          rw [← hy0]
          refine red_eq ?_ (l2.2.1 0) (oy.2.1 0)
          rwa [show y' 0 - (y 0 - gp 0 * iw 0) - gp 0 * iw 0 = y' 0 - y 0 by omega] at q5
        rw [show P * 2 = 2 * P by omega]
        have hmn : min (2 * P) n = m := hm
        refine k_root_n hs hx h13 hr h1 ho hnM he hk hh k f (2 * P) I9 y' (by omega) (by omega) (by omega) hn1 (by rw [hmn]; exact l1) (by rw [hmn]; exact l2) h00 (by rw [hmn]; exact hy2) (fun b b3 b4 b5 b6 b7 b8 b9 b10 b11 => ?_)
        rw [l5 b b3 b6 b7 b8 b9 b10 b11, g2 b b11, f2 b b8 b9, e2 b b8 b9, d2 b b8 b9, c2 b b10 b11 b4 b5, b2 b b10 b11, a2 b b6 b7]
        exact hfr b b3 b4 b5 b6 b7 b8 b9 b10 b11
theorem k_root_s (hs : qSh g) (hx : qSer g x) (h13 : 32 < x) (hr : kR I p M) (h1 : kS I x n c) (ho : okS p n c) (hn : 1 ≤ n) {kk : Nat} (hk : kk < 1000) (k4 : rt0 p kk (c 0) = p → Q (some (.int (nI 4))) g I J) (k : rt0 p kk (c 0) < p → qev (d + 1) 18 (84, [.ref 12, .ref x, .int (nI kk), .int (nI (rt0 p kk (c 0))), .int (nI 1)], [], g, (qw (qw I 18 1 (nI 1)) 19 0 (nI (rt0 p kk (c 0)))), J) Q) : ∀ f s, s + f = p → 1 ≤ s → rt p kk (c 0) f s = rt0 p kk (c 0) → qev (d + 1) 18 (24, [.ref 12, .ref x, .int (nI kk), .int (nI s), qpad], [], g, I, J) Q
  | 0, s, hf, h0, he => by
    have hp := hr.p2
    have e : rt0 p kk (c 0) = s := he.symm
    refine w18_24 hs hx ⟨fun h3 => ⟨fun h4 => ?_, fun h4 => k4 (by omega)⟩, fun h3 => ?_⟩
    · rw [hr.1, ← nI_iI, nI_ltI (by omega) (by omega)] at h4; omega
    · rw [hr.1, ← nI_iI, nI_leI (by omega) (by omega)] at h3; omega
  | f + 1, s, hf, h0, he => by
    have hp := hr.p2
    have b0 := ho.2.1 0
    have hc0 : I (x + 1) 0 = iI (c 0) := h1.2 0 (by omega)
    refine w18_24 hs hx ⟨fun h3 => ?_, fun h3 => ?_⟩
    · rw [hr.1, ← nI_iI, nI_leI (by omega) (by omega)] at h3; omega
    · rw [hc0, nI_iI s]
      refine k_isRoot hs hr (v := (s : Int)) (by omega) b0 hk (fun h5 => ⟨_, rfl, fun h6 => ?_, fun h6 => ⟨fun h7 => ?_, fun h7 => ?_⟩⟩) (fun h5 => ⟨_, rfl, fun h6 => ?_, fun h6 => ?_⟩)
      · exact absurd h6 (by rw [← nI_0, nI_eq (by omega) (by omega)]; omega)
      · have e : rt0 p kk (c 0) = s := by rw [← he, rt, if_pos h5]
        rw [← nI_iI]
        rw [e] at k
        exact k (by omega)
      · rw [hr.1, iI_lt (by omega) (by omega)] at h7; omega
      · rw [← nI_iI, nI_add]
        rw [rt, if_neg h5] at he
        exact k_root_s hs hx h13 hr h1 ho hn hk k4 k f (s + 1) (by omega) (by omega) he
      · exact absurd nI_0 h6
theorem k_root (hs : qSh g) (hx : qSer g x) (h13 : 32 < x) (hr : kR I p M) (h1 : kS I x n c) (ho : okS p n c) (hn : 1 ≤ n) (hnM : n ≤ M) {kk : Nat} (hk : 2 ≤ kk ∧ kk < 100) (k : ∀ I', (whyRoot p kk c = -1 → kS I' x n (sRoot p n kk c)) → (∀ b, b ≠ x → b ≠ x + 1 → b ≠ 13 → b ≠ 16 → b ≠ 17 → b ≠ 18 → b ≠ 19 → b ≠ 20 → b ≠ 21 → b ≠ 22 → b ≠ 23 → I' b = I b) → Q (some (.int (iI (whyRoot p kk c)))) g I' J) : qC (d + 3) 18 [.ref 12, .ref x, .int (nI kk)] g I J Q := by
  have hp := hr.p2
  have b0 := ho.2.1 0
  have h24 := ho.1
  have hc0 : I (x + 1) 0 = iI (c 0) := h1.2 0 (by omega)
  have kno : ∀ (v : Nat), whyRoot p kk c = (v : Int) → Q (some (.int (nI v))) g I J := fun v hv => by
    have := k I (fun h => by rw [hv] at h; omega) (fun _ _ _ _ _ _ _ _ _ _ _ _ => rfl)
    rw [hv] at this
    rwa [← nI_iI] at this
  refine w18 hs hx ⟨fun h3 => ?_, fun h3 => ⟨hr.nz, fun h4 => ?_, fun h4 => ?_⟩⟩
  · rw [hc0, iI_z0, iI_eq (by omega) (by omega)] at h3
    exact kno 2 (if_pos h3)
  · rw [hc0, iI_z0, iI_eq (by omega) (by omega)] at h3
    rw [nI_iI, hr.rem (by omega), iI_z0, iI_eq (by have := Int.emod_lt_of_pos (kk : Int) (show (0 : Int) < p by omega); have := Int.emod_nonneg (kk : Int) (show (p : Int) ≠ 0 by omega); omega) (by omega)] at h4
    exact kno 3 (by unfold whyRoot; rw [if_neg h3, if_pos h4]; rfl)
  · rw [hc0, iI_z0, iI_eq (by omega) (by omega)] at h3
    rw [nI_iI, hr.rem (by omega), iI_z0, iI_eq (by have := Int.emod_lt_of_pos (kk : Int) (show (0 : Int) < p by omega); have := Int.emod_nonneg (kk : Int) (show (p : Int) ≠ 0 by omega); omega) (by omega)] at h4
    obtain ⟨e, rfl⟩ : ∃ e, kk = e + 1 := ⟨kk - 1, by omega⟩
    refine k_root_s (d := d + 2) (kk := e + 1) hs hx h13 hr h1 ho hn (by omega) (fun h5 => kno 4 (by unfold whyRoot; rw [if_neg h3, if_neg h4, if_pos h5]; rfl)) (fun h5 => ?_) (p - 1) 1 (by omega) (Nat.le_refl _) rfl
    have hsp := rt_spec p (e + 1) (c 0) (p - 1) 1
    have h6 : ((rt0 p (e + 1) (c 0) : Nat) : Int) ^ (e + 1) % p = c 0 := hsp.2.2 (by unfold rt0 at h5; omega)
    have h7 : 1 ≤ rt0 p (e + 1) (c 0) := hsp.1
    have e9 : whyRoot p (e + 1) c = -1 := by unfold whyRoot; rw [if_neg h3, if_neg h4, if_neg (by omega)]
    have hun := stp_unit hr.2.2.1 h4 h7 h5
    rw [Nat.add_sub_cancel, Int.natCast_add] at hun
    generalize hh : rt0 p (e + 1) (c 0) = h at *
    have hst : okS p (min 1 n) (fun i => if i = 0 then (h : Int) else 0) := ⟨by omega, fun i => by dsimp only; split <;> omega, fun i hi => if_neg (by omega)⟩
    have hEst : pE p (min 1 n) (pw (fun i => if i = 0 then (h : Int) else 0) (e + 1)) c := fun i hi => by
      rw [show i = 0 by omega, pw_z, if_pos rfl]
      apply dvd_emod.mpr
      rw [h6, ho.red]
    refine k_root_n (d := d) (e := e) (h := h) hs hx h13 hr h1 ho hnM (by omega) h4 ⟨h7, h5⟩ (fun I' y a1 a2 a3 a4 a5 => ?_) n 1 _ (fun i => if i = 0 then (h : Int) else 0) (by omega) (Nat.le_refl _) (by omega) hn ?_ hst (if_pos rfl) hEst (fun b g1 g2 g3 g4 g5 g6 g7 g8 g9 => by rw [zu_a g5, zu_a g4])
    · have := k I' (fun _ => ?_) a5
      · rw [e9] at this
        rwa [← iI_zm1] at this
      · have hok := root_ok (p := p) (f := c) (e := e) (step := stp p (e + 1) h) (head := (h : Int)) hun (by apply dvd_emod.mpr; rw [h6, ho.red]) (n - 1)
        rw [show n - 1 + 1 = n by omega] at hok
        have hS : sRoot p n (e + 1) c = ppl (rootF p c e (stp p (e + 1) h)) (h : Int) (n - 1) := by unfold sRoot; rw [hh, Nat.add_sub_cancel]
        have hu := root_uniq (p := p) (n := n) (e := e) (y := y) (z := ppl (rootF p c e (stp p (e + 1) h)) (h : Int) (n - 1)) (f := c) (w := stp p (e + 1) h) (by rw [ppl_z]; exact a3) (by rw [ppl_z]; exact hun) a4 hok (fun i _ => a2.2.1 i) (fun i _ => ppl_red (by omega) (by omega) (fun k y => ⟨Int.emod_nonneg _ (by omega), Int.emod_lt_of_pos _ (by omega)⟩) _ i)
        refine ⟨a1.1, fun i hi => ?_⟩
        rw [a1.2 i hi, hu i hi, hS]
    · refine ⟨by rw [zu_a (by omega), zu_s, show min 1 n = 1 by omega], fun i hi => ?_⟩
      rw [show i = 0 by omega, zu_s]
      exact nI_iI h
end KNEW
