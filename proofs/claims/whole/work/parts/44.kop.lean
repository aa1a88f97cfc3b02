/-! quotients, logarithms, exponentials, compositions of the class -/
theorem shf_ok {p n v : Nat} {c : Nat → Int} (h : okS p n c) : okS p (n - v) (shf v c) := ⟨by have := h.1; omega, fun i => h.2.1 _, fun i hi => h.2.2 _ (by omega)⟩
def qL (p M n m : Nat) (c e : Nat → Int) : Nat := mln M (n - od m e) (shf (od m e) c) (m - od m e) (sInv p (m - od m e) (shf (od m e) e))
def sDiv (p M n m : Nat) (c e : Nat → Int) : Nat → Int := zx p (qL p M n m c e) (cv (shf (od m e) c) (sInv p (m - od m e) (shf (od m e) e)))
/-- the REASON against a quotient -/
def whyDiv (n m : Nat) (c e : Nat → Int) : Int := if od m e = m ∨ od n c < od m e then 2 else if od m e = n then 5 else -1
section KOP
variable {d : Nat} {g : qG} {I : qI} {J : qJ} {Q : qQ} {p M n m x x1 x2 : Nat} {c e : Nat → Int}
theorem k_div (hs : qSh g) (hx1 : qSer g x1) (hx2 : qSer g x2) (h13 : 14 < x1 ∧ 14 < x2) (hd : dj x1 x2) (hr : kR I p M) (h1 : kS I x1 n c) (h2 : kS I x2 m e) (o1 : okS p n c) (o2 : okS p m e) (hn : 1 ≤ n) (hm : 1 ≤ m)
    (k0 : whyDiv n m c e ≠ -1 → Q (some (.int (iI (whyDiv n m c e)))) g I J) (k : whyDiv n m c e = -1 → ∀ I', kS I' x1 (qL p M n m c e) (sDiv p M n m c e) → (∀ b, b ≠ x1 → b ≠ x1 + 1 → b ≠ x2 → b ≠ x2 + 1 → b ≠ 13 → I' b = I b) → Q (some (.int (-1))) g I' J) : qC (d + 2) 12 [.ref 12, .ref x1, .ref x2] g I J Q := by
  have a1 := o1.1
  have a2 := o2.1
  have v1 := od_le n c
  have v2 := od_le m e
  have hp := hr.p2
  unfold dj at hd
  refine w12 hs hx1 hx2 (k_first hx2 h2 o2 hp.2 ⟨_, rfl, fun h3 => ?_, fun h3 => k_first hx1 h1 o1 hp.2 ⟨_, rfl, fun h4 => ⟨fun h5 => ?_, fun h5 => ?_⟩, fun h4 => ?_⟩⟩)
  · rw [h2.1, nI_eq (by omega) (by omega)] at h3
    have e9 : whyDiv n m c e = 2 := if_pos (Or.inl h3)
    rw [e9] at k0
    have := k0 (by omega)
    rwa [show iI 2 = nI 2 from (nI_iI 2).symm] at this
  · rw [h2.1, nI_eq (by omega) (by omega)] at h3
    rw [nI_leI (by omega) (by omega)] at h4
    rw [h1.1, nI_eq (by omega) (by omega)] at h5
    have e9 : whyDiv n m c e = 5 := by unfold whyDiv; rw [if_neg (by omega), if_pos h5]
    rw [e9] at k0
    have := k0 (by omega)
    rwa [show iI 5 = nI 5 from (nI_iI 5).symm] at this
  · rw [h2.1, nI_eq (by omega) (by omega)] at h3
    rw [nI_leI (by omega) (by omega)] at h4
    rw [h1.1, nI_eq (by omega) (by omega)] at h5
    have e9 : whyDiv n m c e = -1 := by unfold whyDiv; rw [if_neg (by omega), if_neg h5]
    refine k_without hx1 h1 a1 (by omega) (fun I1 b1 b2 => ⟨rfl, k_without hx2 (h2.frame (b2 x2 (by omega) (by omega)) (b2 (x2 + 1) (by omega) (by omega))) a2 v2 (fun I2 c1 c2 => ⟨rfl, ?_⟩)⟩)
    have hr2 : kR I2 p M := hr.frame (by rw [c2 12 (by omega) (by omega), b2 12 (by omega) (by omega)])
    refine k_invt hs hx2 (by omega) hr2 c1 (shf_ok o2) (by omega) (fun I3 d1 d2 => ⟨rfl, ?_⟩)
    have f1 : kS I3 x1 (n - od m e) (shf (od m e) c) := b1.frame (by rw [d2 x1 (by omega) (by omega), c2 x1 (by omega) (by omega)]) (by rw [d2 (x1 + 1) (by omega) (by omega), c2 (x1 + 1) (by omega) (by omega)])
    refine k_mul hs hx1 hx2 (by omega) (by omega) (hr2.frame (d2 12 (by omega) (by omega))) f1 d1 (shf_ok o1) (sInv_ok (by omega) (by omega) (by omega)) (by omega) (fun I4 e1 e2 => ⟨rfl, k e9 I4 e1 (fun b g1 g2 g3 g4 g5 => ?_)⟩)
    rw [e2 b g1 g2, d2 b g5 g4, c2 b g3 g4, b2 b g1 g2]
  · rw [nI_leI (by omega) (by omega)] at h4
    have e9 : whyDiv n m c e = 2 := if_pos (Or.inr (by omega))
    rw [e9] at k0
    have := k0 (by omega)
    rwa [show iI 2 = nI 2 from (nI_iI 2).symm] at this
/-! logarithm -/
def lL (p M n : Nat) (c : Nat → Int) : Nat := mln M (n - 1) (sDer p n c) n (sInv p n c)
def lP (p M n : Nat) (c : Nat → Int) : Nat → Int := zx p (lL p M n c) (cv (sDer p n c) (sInv p n c))
/-- integral: its REASON, how far, what -/
def whyInt (p M n : Nat) (c : Nat → Int) : Int := if p < min (n + 1) M ∧ c (p - 1) ≠ 0 then 3 else -1
def iLn (p M n : Nat) : Nat := min (min (n + 1) M) p
def whyLog (p M n : Nat) (c : Nat → Int) : Int := if c 0 ≠ 1 then 2 else if n = 1 then -1 else whyInt p M (lL p M n c) (lP p M n c)
def gLn (p M n : Nat) (c : Nat → Int) : Nat := if n = 1 then 1 else iLn p M (lL p M n c)
def sLog (p M n : Nat) (c : Nat → Int) : Nat → Int := if n = 1 then (fun _ => 0) else sInt p (iLn p M (lL p M n c)) (lP p M n c)
theorem sDer_ok {p n : Nat} {c : Nat → Int} (hp : 0 < p) (h : n ≤ 24) : okS p (n - 1) (sDer p n c) := zx_ok hp (by omega)
theorem lL_bd {p M n : Nat} {c : Nat → Int} (hM : 2 ≤ M) (hn : 2 ≤ n) : 1 ≤ lL p M n c ∧ lL p M n c ≤ M := by unfold lL mln; omega
theorem k_int' (hs : qSh g) (hx : qSer g x) (h13 : 13 < x) (hr : kR I p M) (h1 : kS I x n c) (ho : okS p n c) (hn : 1 ≤ n) (k : ∀ I', (whyInt p M n c = -1 → kS I' x (iLn p M n) (sInt p (iLn p M n) c)) → (∀ b, b ≠ x → b ≠ x + 1 → I' b = I b) → Q (some (.int (iI (whyInt p M n c)))) g I' J) : qC (d + 1) 14 [.ref 12, .ref x] g I J Q := by
  refine k_int hs hx h13 hr h1 ho hn (fun h3 h4 => ?_) (fun h3 I' a1 a2 => ?_)
  · have e9 : whyInt p M n c = 3 := if_pos ⟨h3, h4⟩
    have := k I (fun h => by rw [e9] at h; omega) (fun _ _ _ => rfl)
    rw [e9] at this
    rwa [show iI 3 = nI 3 from (nI_iI 3).symm] at this
  · have e9 : whyInt p M n c = -1 := if_neg h3
    have := k I' (fun _ => a1) a2
    rw [e9] at this
    rwa [← iI_zm1] at this
theorem k_log (hs : qSh g) (hx : qSer g x) (h13 : 32 < x) (hr : kR I p M) (h1 : kS I x n c) (ho : okS p n c) (hn : 1 ≤ n) (k : ∀ I', (whyLog p M n c = -1 → kS I' x (gLn p M n c) (sLog p M n c)) → (∀ b, b ≠ x → b ≠ x + 1 → b ≠ 13 → b ≠ 20 → b ≠ 21 → I' b = I b) → Q (some (.int (iI (whyLog p M n c)))) g I' J) : qC (d + 2) 15 [.ref 12, .ref x] g I J Q := by
  have hp := hr.p2
  have hM := hr.2.2.2
  have h24 := ho.1
  have b0 := ho.2.1 0
  refine w15 hs hx ⟨fun h3 => ⟨fun h4 => ?_, fun h4 => ?_⟩, fun h3 => ?_⟩
  · rw [h1.2 0 (by omega), nI_iI, iI_eq (by omega) (by omega)] at h3
    rw [h1.1, nI_eq (by omega) (by omega)] at h4
    have e9 : whyLog p M n c = -1 := by unfold whyLog; rw [if_neg (fun h => h h3), if_pos h4]
    have := k (qw I (x + 1) 0 (nI 0)) (fun _ => by
      unfold gLn sLog
      rw [if_pos h4, if_pos h4]
      refine ⟨by rw [zu_a (by omega), h1.1, h4], fun i hi => ?_⟩
      rw [show i = 0 by omega, zu_s]; exact nI_iI 0) (fun b g1 g2 _ _ _ => zu_a g2)
    rw [e9] at this
    rwa [← iI_zm1] at this
  · rw [h1.2 0 (by omega), nI_iI, iI_eq (by omega) (by omega)] at h3
    rw [h1.1, nI_eq (by omega) (by omega)] at h4
    have s20 : qSer g 20 := hs.ser rfl (by omega)
    refine k_copy s20 hx (by omega) h1 h24 (fun I1 a1 a2 => ⟨rfl, k_invt hs s20 (by omega) (hr.frame (a2 12 (by omega) (by omega))) a1 ho hn (fun I2 b1 b2 => ⟨rfl, ?_⟩)⟩)
    have hr2 : kR I2 p M := hr.frame (by rw [b2 12 (by omega) (by omega), a2 12 (by omega) (by omega)])
    have f2 : kS I2 x n c := h1.frame (by rw [b2 x (by omega) (by omega), a2 x (by omega) (by omega)]) (by rw [b2 (x + 1) (by omega) (by omega), a2 (x + 1) (by omega) (by omega)])
    refine k_der hs hx (by omega) hr2 f2 ho (fun h => by omega) (fun _ I3 c1 c2 => ⟨_, rfl, ?_⟩)
    have hr3 : kR I3 p M := hr2.frame (c2 12 (by omega) (by omega))
    refine k_mul hs hx s20 (by omega) (by omega) hr3 c1 (b1.frame (c2 20 (by omega) (by omega)) (c2 21 (by omega) (by omega))) (sDer_ok (by omega) h24) (sInv_ok (by omega) hn h24) (by omega) (fun I4 d1 d2 => ⟨rfl, ?_⟩)
    have hl := lL_bd (p := p) (c := c) hM.1 (show 2 ≤ n by omega)
    refine k_int' hs hx (by omega) (hr3.frame (d2 12 (by omega) (by omega))) d1 (zx_ok (by omega) (by unfold lL at hl; omega)) hl.1 (fun I5 e1 e2 => ⟨_, rfl, ?_⟩)
    have e9 : whyLog p M n c = whyInt p M (lL p M n c) (lP p M n c) := by unfold whyLog; rw [if_neg (fun h => h h3), if_neg h4]
    have := k I5 (fun h => by
      unfold gLn sLog
      rw [if_neg h4, if_neg h4]
      exact e1 (e9.symm.trans h)) (fun b g1 g2 g3 g4 g5 => by rw [e2 b g1 g2, d2 b g1 g2, c2 b g1 g2, b2 b g3 g5, a2 b g4 g5])
    rw [e9] at this
    exact this
  · rw [h1.2 0 (by omega), nI_iI, iI_eq (by omega) (by omega)] at h3
    have e9 : whyLog p M n c = 2 := if_pos h3
    have := k I (fun h => by rw [e9] at h; omega) (fun _ _ _ _ _ _ => rfl)
    rw [e9] at this
    rwa [show iI 2 = nI 2 from (nI_iI 2).symm] at this
/-! exponential -/
def expT (p : Nat) (c : Nat → Int) (k : Nat) (y : Nat → Int) : Nat → Int := fun t => (((t : Int) + 1) * c (t + 1) % p) * y (k - (t + 1))
def expF (p : Nat) (c : Nat → Int) (k : Nat) (y : Nat → Int) : Int := (sm (expT p c k y) k % p) * iv p (k : Int) % p
def sExp (p n : Nat) (c : Nat → Int) : Nat → Int := ppl (expF p c) 1 (n - 1)
theorem sExp_ok {p n : Nat} {c : Nat → Int} (hp : 2 ≤ p) (hn : 1 ≤ n) (h24 : n ≤ 24) : okS p n (sExp p n c) :=
  ⟨h24, ppl_red (by omega) (by omega) (fun k y => ⟨Int.emod_nonneg _ (by omega), Int.emod_lt_of_pos _ (by omega)⟩) _, fun i hi => ppl_hi _ _ (by omega)⟩
theorem sExp_at {p n i : Nat} {c : Nat → Int} (hi : i + 1 < n) : sExp p n c (i + 1) = expF p c (i + 1) (sExp p n c) := by
  unfold sExp
  rw [ppl_lo (i + 1) (n - 1) (i + 1) (by omega) (Nat.le_refl _), ppl_s]
  unfold expF
  congr 3
  refine sm_congr (fun t ht => ?_)
  unfold expT
  rw [ppl_lo i (n - 1) (i + 1 - (t + 1)) (by omega) (by omega)]
theorem expT_bd {p n k : Nat} {c Y : Nat → Int} (hp : 2 ≤ p ∧ p < 998) (oy : ∀ j, 0 ≤ Y j ∧ Y j < p) : 0 ≤ sm (expT p c k Y) k ∧ sm (expT p c k Y) k ≤ (k : Int) * (997 * 997) := sm_bd (fun j _ => by
  unfold expT
  have h1 := Int.emod_nonneg (((j : Int) + 1) * c (j + 1)) (show (p : Int) ≠ 0 by omega)
  have h2 := Int.emod_lt_of_pos (((j : Int) + 1) * c (j + 1)) (show (0 : Int) < p by omega)
  have h3 := oy (k - (j + 1))
  exact ⟨Int.mul_nonneg h1 h3.1, Int.mul_le_mul (by omega) (by omega) h3.1 (by omega)⟩)
theorem k_exp_i (hs : qSh g) (hx : qSer g x) {I' : qI} (hr : kR I' p M) {Y : Nat → Int} {i : Nat} (hi : i < 24) (hin : i < n) (hip : i < p) (hc : ∀ j, j < n → I' (x + 1) j = iI (c j)) (hy : ∀ j, j < i → I' 13 j = iI (Y j)) (oc : ∀ j, 0 ≤ c j ∧ c j < p) (oy : ∀ j, 0 ≤ Y j ∧ Y j < p)
    (kk : qev (d + 1) 16 (28, [.ref 12, .ref x, .int (nI (i + 1)), .int (iI (sm (expT p c i Y) i)), .int (nI (i + 1))], [], g, qw I' 13 i (iI (expF p c i Y)), J) Q) :
    ∀ r t, t + r = i → qev (d + 1) 16 (41, [.ref 12, .ref x, .int (nI i), .int (iI (sm (expT p c i Y) t)), .int (nI (t + 1))], [], g, I', J) Q
  | 0, t, ht => by
    have h2 := hr.p2
    have et : t = i := by omega
    rw [et]
    have b1 := expT_bd (n := n) (k := i) (c := c) h2 oy
    have b2 : (i : Int) * (997 * 997) ≤ 24 * (997 * 997) := Int.mul_le_mul_of_nonneg_right (by omega) (by omega)
    refine w16_41 hs hx ⟨fun _ => ⟨hr.nz, k_inv hs hr (v := (i : Int)) (by omega) (nI_iI i) ⟨_, rfl, hr.nz, i, rfl, hi, ?_⟩⟩, fun h3 => ?_⟩
    · unfold expF at kk
      generalize sm (expT p c i Y) i = S at b1 kk ⊢
      have b3 : 0 ≤ S % p ∧ S % p < p := ⟨Int.emod_nonneg _ (by omega), Int.emod_lt_of_pos _ (by omega)⟩
      have b5 := iv_red (p := p) (by omega) (i : Int)
      have b4 : 0 ≤ S % p * iv p (i : Int) ∧ S % p * iv p (i : Int) ≤ 997 * 997 := ⟨Int.mul_nonneg (by omega) b5.1, Int.mul_le_mul (by omega) (by omega) b5.1 (by omega)⟩
      rw [hr.rem (by omega), Int.emod_eq_of_lt (a := (i : Int)) (by omega) (by omega), iI_mul, hr.rem (by omega), nI_add]
      exact kk
    · rw [nI_ltI (by omega) (by omega)] at h3; omega
  | r + 1, t, ht => by
    have h2 := hr.p2
    have b1 := oc (t + 1)
    have b4 : 0 ≤ ((t : Int) + 1) * c (t + 1) ∧ ((t : Int) + 1) * c (t + 1) ≤ 24 * 997 := ⟨Int.mul_nonneg (by omega) b1.1, Int.mul_le_mul (by omega) (by omega) b1.1 (by omega)⟩
    refine w16_41 hs hx ⟨fun h3 => ?_, fun _ => ⟨t + 1, rfl, by omega, hr.nz, i - (t + 1), pk_sub (by omega), by omega, ?_⟩⟩
    · rw [nI_ltI (by omega) (by omega)] at h3; omega
    · rw [hc (t + 1) (by omega), hy (i - (t + 1)) (by omega), show nI (t + 1) * iI (c (t + 1)) = iI (((t : Int) + 1) * c (t + 1)) by rw [nI_iI, iI_mul]; rfl, hr.rem (by omega), iI_mul, iI_add, nI_add]
      exact k_exp_i hs hx hr hi hin hip hc hy oc oy kk r (t + 1) (by omega)
theorem k_exp_o (hs : qSh g) (hx : qSer g x) (h13 : 13 < x) (hr : kR I p M) (h0 : I x 1 = nI n) (hc : ∀ j, j < n → I (x + 1) j = iI (c j)) (oc : ∀ j, 0 ≤ c j ∧ c j < p) (h24 : n ≤ 24) (hnp : n ≤ p)
    (k : ∀ I', am I 13 n (fun j => iI (sExp p n c j)) I' → Q (some (.int (-1))) g (va_up I' (x + 1) (va_cpy (I' 13) (I' (x + 1)) 0 0 n)) J) : ∀ (r i : Nat) (I' : qI) (w3 w4 : Value), 1 ≤ i → i + r = n → am I 13 i (fun j => iI (sExp p n c j)) I' → qev (d + 1) 16 (28, [.ref 12, .ref x, .int (nI i), w3, w4], [], g, I', J) Q
  | 0, i, I', w3, w4, h1, hi, hA => by
    have e0 : I' x 1 = nI n := by rw [hA.1 x (by omega)]; exact h0
    have en : i = n := by omega
    rw [en] at hA
    refine w16_28 hs hx ⟨fun _ => ⟨0, 0, n, rfl, rfl, e0, by omega, by omega, k I' hA⟩, fun h3 => ?_⟩
    rw [e0, nI_leI (by omega) (by omega)] at h3; omega
  | r + 1, i, I', w3, w4, h1, hi, hA => by
    have h2 := hr.p2
    have e0 : I' x 1 = nI n := by rw [hA.1 x (by omega)]; exact h0
    have hr1 : kR I' p M := hr.frame (hA.1 12 (by omega))
    obtain ⟨j, rfl⟩ : ∃ j, i = j + 1 := ⟨i - 1, by omega⟩
    have oS := sExp_ok (c := c) h2.1 (show 1 ≤ n by omega) h24
    refine w16_28 hs hx ⟨fun h3 => ?_, fun _ => ?_⟩
    · rw [e0, nI_leI (by omega) (by omega)] at h3; omega
    · have h9 := k_exp_i (d := d) (Q := Q) (J := J) (Y := sExp p n c) (c := c) (n := n) (i := j + 1) hs hx hr1 (by omega) (by omega) (by omega) (fun t ht => by rw [hA.1 _ (by omega)]; exact hc t ht) hA.2.1 oc oS.2.1 ?_ (j + 1) 0 (by omega)
      · exact h9
      · exact k_exp_o hs hx h13 hr h0 hc oc h24 hnp k r (j + 1 + 1) _ _ _ (by omega) (by omega) (am_s hA (by rw [sExp_at (by omega)]))
theorem k_exp (hs : qSh g) (hx : qSer g x) (h13 : 13 < x) (hr : kR I p M) (h1 : kS I x n c) (ho : okS p n c) (hn : 1 ≤ n) (k0 : c 0 ≠ 0 → Q (some (.int (nI 2))) g I J) (k : c 0 = 0 → ∀ I', kS I' x (min n p) (sExp p (min n p) c) → (∀ b, b ≠ x → b ≠ x + 1 → b ≠ 13 → I' b = I b) → Q (some (.int (-1))) g I' J) : qC (d + 1) 16 [.ref 12, .ref x] g I J Q := by
  have h2 := hr.p2
  have h24 := ho.1
  have b0 := ho.2.1 0
  refine w16 hs hx ⟨fun h3 => ?_, fun h3 => ?_⟩
  · rw [h1.2 0 (by omega), iI_z0, iI_eq (by omega) (by omega)] at h3
    refine k_short hx h1 h24 (m := p) (by rw [hr.1, nI_iI]) (by omega) (fun I1 a1 a2 => ⟨rfl, ?_⟩)
    have hr1 : kR I1 p M := hr.frame (a2 12 (by omega))
    refine k_exp_o (n := min n p) (c := c) hs hx h13 (I := I1) hr1 a1.1 (fun j hj => by rw [a2 (x + 1) (by omega)]; exact h1.2 j (by omega)) ho.2.1 (by omega) (by omega) (fun I' hA => k h3 _ ⟨?_, fun i hi => ?_⟩ (fun b g1 g2 g3 => by rw [zv_a g2, hA.1 b g3, a2 b g1])) (min n p - 1) 1 _ qpad qpad (Nat.le_refl _) (by omega) (am_s (am_0 _ _ _) (by unfold sExp; rw [ppl_z]; exact nI_iI 1))
    · rw [zv_a (by omega), hA.1 x (by omega)]; exact a1.1
    · rw [zv_s, pk_cpy_in (by omega) (by omega), show 0 + (i - 0) = i by omega]; exact hA.2.1 i hi
  · rw [h1.2 0 (by omega), iI_z0, iI_eq (by omega) (by omega)] at h3
    exact k0 h3
end KOP
