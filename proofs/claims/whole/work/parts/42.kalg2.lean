/-! the class calculates: a number's root, values, inverses, derivatives, integrals, exponentials -/
def lz (c : Nat → Int) : Nat → Int
  | 0 => -1
  | t + 1 => if c t = 0 then lz c t else (t : Int)
theorem lz_bd (c : Nat → Int) : ∀ t : Nat, -1 ≤ lz c t ∧ lz c t < t
  | 0 => by unfold lz; omega
  | t + 1 => by
    unfold lz
    have := lz_bd c t
    split <;> omega
theorem lz_z (c : Nat → Int) : ∀ t i : Nat, lz c t < i → i < t → c i = 0
  | 0, i, _, h => absurd h (Nat.not_lt_zero i)
  | t + 1, i, h1, h2 => by
    unfold lz at h1
    by_cases hc : c t = 0
    · rw [if_pos hc] at h1
      by_cases hi : i = t
      · rw [hi]; exact hc
      · exact lz_z c t i h1 (by omega)
    · rw [if_neg hc] at h1; omega
theorem lz_nz (c : Nat → Int) : ∀ t : Nat, 0 ≤ lz c t → c (lz c t).toNat ≠ 0
  | 0, h => by unfold lz at h; omega
  | t + 1, h => by
    unfold lz at h ⊢
    by_cases hc : c t = 0
    · rw [if_pos hc] at h ⊢; exact lz_nz c t h
    · rw [if_neg hc]; exact hc
def hor (p : Nat) (c : Nat → Int) (x : Int) : Nat → Int → Int
  | 0, a => a
  | t + 1, a => hor p c x t ((a * x + c t) % p)
theorem hor_mod {p : Nat} {c : Nat → Int} (x : Int) : ∀ (t : Nat) (a : Int), hor p c (x % p) t a = hor p c x t a
  | 0, a => rfl
  | t + 1, a => by
    unfold hor
    rw [hor_mod x t, Int.add_emod, em_r, ← Int.add_emod]
section KAL2
variable {d : Nat} {g : qG} {I : qI} {J : qJ} {Q : qQ} {p M n m x x1 x2 : Nat} {c e : Nat → Int}
theorem k_lz_l (hx : qSer g x) (h1 : kS I x n c) (ho : okS p n c) (hp : p < 998) : ∀ t, t ≤ n → Q (some (.int (iI (lz c t)))) g I J → qev d 22 (7, [.ref 12, .ref x, .int (iI ((t : Int) - 1))], [], g, I, J) Q
  | 0, _, k => by
    refine w22_7 hx ⟨fun _ => k, fun h3 => ?_⟩
    rw [iI_z0, iI_lt (by omega) (by omega)] at h3
    exact absurd h3 (by omega)
  | t + 1, ht, k => by
    have h24 := ho.1
    have et : iI (((t + 1 : Nat) : Int) - 1) = nI t := by rw [nI_iI]; congr 1; omega
    rw [et]
    refine w22_7 hx ⟨fun h3 => ?_, fun _ => ⟨t, rfl, by omega, fun h3 => ?_, fun h3 => ?_⟩⟩
    · rw [← nI_0, nI_ltI (by omega) (by omega)] at h3; omega
    · rw [h1.2 t (by omega), iI_z0, iI_eq (by have := ho.2.1 t; omega) (by omega)] at h3
      unfold lz at k
      rw [if_pos h3] at k
      rw [show nI t + (-1) = iI ((t : Int) - 1) by rw [nI_iI, iI_zm1, iI_add]; rfl]
      exact k_lz_l hx h1 ho hp t (by omega) k
    · rw [h1.2 t (by omega), iI_z0, iI_eq (by have := ho.2.1 t; omega) (by omega)] at h3
      unfold lz at k
      rw [if_neg h3] at k
      rw [nI_iI]
      exact k
theorem k_lz (hx : qSer g x) (h1 : kS I x n c) (ho : okS p n c) (hp : p < 998) (k : Q (some (.int (iI (lz c n)))) g I J) : qC d 22 [.ref 12, .ref x] g I J Q := by
  refine w22 hx ?_
  rw [h1.1, show nI n - nI 1 = iI ((n : Int) - 1) by rw [nI_iI, nI_iI, iI_sub]; rfl]
  exact k_lz_l hx h1 ho hp n (Nat.le_refl _) k
theorem k_val_l (hs : qSh g) (hx : qSer g x) (hr : kR I p M) (h1 : kS I x n c) (ho : okS p n c) {y : Int} (hy : 0 ≤ y ∧ y < p) {i2 : Int32} : ∀ (t : Nat) (a : Int), t ≤ n → 0 ≤ a ∧ a < p → Q (some (.int (iI (hor p c y t a)))) g I J → qev d 23 (18, [.ref 12, .ref x, .int i2, .int (iI y), .int (iI a), .int (iI ((t : Int) - 1))], [], g, I, J) Q
  | 0, a, _, ha, k => by
    refine w23_18 hs hx ⟨fun _ => k, fun h3 => ?_⟩
    rw [iI_z0, iI_lt (by omega) (by omega)] at h3
    exact absurd h3 (by omega)
  | t + 1, a, ht, ha, k => by
    have h24 := ho.1
    have h2 := hr.p2
    have et : iI (((t + 1 : Nat) : Int) - 1) = nI t := by rw [nI_iI]; congr 1; omega
    rw [et]
    refine w23_18 hs hx ⟨fun h3 => ?_, fun _ => ⟨t, rfl, by omega, hr.nz, ?_⟩⟩
    · rw [← nI_0, nI_ltI (by omega) (by omega)] at h3; omega
    · have b1 : 0 ≤ a * y ∧ a * y ≤ 997 * 997 := ⟨Int.mul_nonneg ha.1 hy.1, Int.mul_le_mul (by omega) (by omega) hy.1 (by omega)⟩
      have b2 := ho.2.1 t
      rw [h1.2 t (by omega), iI_mul, iI_add, hr.rem (by omega), show nI t + (-1) = iI ((t : Int) - 1) by rw [nI_iI, iI_zm1, iI_add]; rfl]
      exact k_val_l hs hx hr h1 ho hy t _ (by omega) ⟨Int.emod_nonneg _ (by omega), Int.emod_lt_of_pos _ (by omega)⟩ k
theorem k_val (hs : qSh g) (hx : qSer g x) (hr : kR I p M) (h1 : kS I x n c) (ho : okS p n c) {v : Int} (hv : 0 ≤ v ∧ v < 2147483648) {w : Int32} (hw : w = iI v) (k : Q (some (.int (iI (hor p c v n 0)))) g I J) : qC d 23 [.ref 12, .ref x, .int w] g I J Q := by
  subst hw
  have h2 := hr.p2
  refine w23 hs hx ⟨hr.nz, ?_⟩
  rw [hr.rem hv, h1.1, show nI n - nI 1 = iI ((n : Int) - 1) by rw [nI_iI, nI_iI, iI_sub]; rfl, show nI 0 = iI 0 from nI_iI 0]
  refine k_val_l hs hx hr h1 ho ⟨Int.emod_nonneg _ (by omega), Int.emod_lt_of_pos _ (by omega)⟩ n 0 (Nat.le_refl _) (by omega) ?_
  rw [hor_mod]
  exact k
theorem k_isRoot_l (hs : qSh g) (hr : kR I p M) {v wd : Int} (hv : 0 ≤ v ∧ v < p) (hw : 0 ≤ wd ∧ wd < p) {kk : Nat} (hk : kk < 1000) (k1 : v ^ kk % p = wd → Q (some (.int (nI 1))) g I J) (k0 : v ^ kk % p ≠ wd → Q (some (.int (nI 0))) g I J) : ∀ r i, i + r = kk → ∀ a : Int, a = v ^ i % p → qev d 4 (6, [.ref 12, .int (iI v), .int (nI kk), .int (iI wd), .int (iI a), .int (nI i)], [], g, I, J) Q
  | 0, i, hi, a, ha => by
    have h2 := hr.p2
    have hb : 0 ≤ a ∧ a < p := by rw [ha]; exact ⟨Int.emod_nonneg _ (by omega), Int.emod_lt_of_pos _ (by omega)⟩
    have e : i = kk := by omega
    rw [e] at ha
    refine w4_6 hs ⟨fun _ => ⟨fun h3 => k1 ?_, fun h3 => k0 ?_⟩, fun h3 => ?_⟩
    · rw [iI_eq (by omega) (by omega)] at h3; rw [← ha, h3]
    · rw [iI_eq (by omega) (by omega)] at h3; rw [← ha]; exact h3
    · rw [nI_leI (by omega) (by omega)] at h3; omega
  | r + 1, i, hi, a, ha => by
    have h2 := hr.p2
    have hb : 0 ≤ a ∧ a < p := by rw [ha]; exact ⟨Int.emod_nonneg _ (by omega), Int.emod_lt_of_pos _ (by omega)⟩
    have b1 : 0 ≤ a * v ∧ a * v ≤ 997 * 997 := ⟨Int.mul_nonneg hb.1 hv.1, Int.mul_le_mul (by omega) (by omega) hv.1 (by omega)⟩
    refine w4_6 hs ⟨fun h3 => ?_, fun _ => ⟨hr.nz, ?_⟩⟩
    · rw [nI_leI (by omega) (by omega)] at h3; omega
    · rw [iI_mul, hr.rem (by omega), nI_add]
      exact k_isRoot_l hs hr hv hw hk k1 k0 r (i + 1) (by omega) _ (by rw [ha, em_l, Int.pow_succ])
theorem k_isRoot (hs : qSh g) (hr : kR I p M) {v wd : Int} (hv : 0 ≤ v ∧ v < p) (hw : 0 ≤ wd ∧ wd < p) {kk : Nat} (hk : kk < 1000) (k1 : v ^ kk % p = wd → Q (some (.int (nI 1))) g I J) (k0 : v ^ kk % p ≠ wd → Q (some (.int (nI 0))) g I J) : qC d 4 [.ref 12, .int (iI v), .int (nI kk), .int (iI wd)] g I J Q := by
  have h2 := hr.p2
  refine w4 ?_
  rw [show nI 1 = iI 1 from nI_iI 1]
  exact k_isRoot_l hs hr hv hw hk k1 k0 kk 0 (by omega) 1 (by rw [Int.pow_zero]; exact (Int.emod_eq_of_lt (by omega) (by omega)).symm)
/-! INVERSE -/
def sInv (p n : Nat) (c : Nat → Int) : Nat → Int := ppl (invF p c (iv p (c 0))) (iv p (c 0)) (n - 1)
theorem sInv_ok {p n : Nat} {c : Nat → Int} (hp : 0 < p) (hn : 1 ≤ n) (h24 : n ≤ 24) : okS p n (sInv p n c) :=
  ⟨h24, ppl_red (by omega) (iv_red hp _) (fun k y => ⟨Int.emod_nonneg _ (by omega), Int.emod_lt_of_pos _ (by omega)⟩) _, fun i hi => ppl_hi _ _ (by omega)⟩
theorem sInv_at {p n i : Nat} {c : Nat → Int} (hi : i + 1 < n) : sInv p n c (i + 1) = (-(sm (fun t => c (t + 1) * sInv p n c (i + 1 - (t + 1))) (i + 1)) * iv p (c 0)) % p := by
  unfold sInv
  rw [ppl_lo (i + 1) (n - 1) (i + 1) (by omega) (Nat.le_refl _), ppl_s]
  unfold invF
  congr 2
  unfold cv
  rw [sm_head, Nat.sub_zero, ppl_hi i (i + 1) (by omega), Int.mul_zero, Int.zero_add]
  congr 1
  refine sm_congr (fun t ht => ?_)
  rw [ppl_lo i (n - 1) (i + 1 - (t + 1)) (by omega) (by omega)]
theorem neg_mod {p : Nat} (S h : Int) : (p - S % p) * h % p = (-S * h) % p := by
  apply dvd_emod.mp
  have := Int.emod_add_mul_ediv S p
  refine ⟨(1 + S / p) * h, ?_⟩
  rw [← Int.sub_mul, ← Int.mul_assoc, Int.mul_add, Int.mul_one]
  congr 1
  omega
theorem k_invt_i (hs : qSh g) (hx : qSer g x) {I' : qI} (hr : kR I' p M) {Y : Nat → Int} {h : Int} (hh : 0 ≤ h ∧ h < p) {i : Nat} (hi : i < 24) (hin : i < n) (hc : ∀ j, j < n → I' (x + 1) j = iI (c j)) (hy : ∀ j, j < i → I' 13 j = iI (Y j)) (oc : ∀ j, 0 ≤ c j ∧ c j < p) (oy : ∀ j, 0 ≤ Y j ∧ Y j < p)
    (kk : qev (d + 1) 11 (20, [.ref 12, .ref x, .int (iI h), .int (nI (i + 1)), .int (iI (sm (fun t => c (t + 1) * Y (i - (t + 1))) i)), .int (nI (i + 1))], [], g, qw I' 13 i (iI ((-(sm (fun t => c (t + 1) * Y (i - (t + 1))) i) * h) % p)), J) Q) :
    ∀ r t, t + r = i → qev (d + 1) 11 (34, [.ref 12, .ref x, .int (iI h), .int (nI i), .int (iI (sm (fun t => c (t + 1) * Y (i - (t + 1))) t)), .int (nI (t + 1))], [], g, I', J) Q
  | 0, t, ht => by
    have h2 := hr.p2
    rw [show t = i by omega]
    refine w11_34 hs hx ⟨fun _ => ⟨hr.nz, hr.nz, i, rfl, hi, ?_⟩, fun h3 => ?_⟩
    · have b1 : 0 ≤ sm (fun t => c (t + 1) * Y (i - (t + 1))) i ∧ sm (fun t => c (t + 1) * Y (i - (t + 1))) i ≤ (i : Int) * (997 * 997) := sm_bd (fun j _ => ⟨Int.mul_nonneg (oc _).1 (oy _).1, Int.mul_le_mul (by have := oc (j + 1); omega) (by have := oy (i - (j + 1)); omega) (oy _).1 (by omega)⟩)
      have b2 : (i : Int) * (997 * 997) ≤ 24 * (997 * 997) := Int.mul_le_mul_of_nonneg_right (by omega) (by omega)
      generalize sm (fun t => c (t + 1) * Y (i - (t + 1))) i = S at b1 kk ⊢
      have b3 : 0 ≤ S % p ∧ S % p < p := ⟨Int.emod_nonneg _ (by omega), Int.emod_lt_of_pos _ (by omega)⟩
      have b4 : 0 ≤ (p - S % p) * h ∧ (p - S % p) * h ≤ 997 * 997 := ⟨Int.mul_nonneg (by omega) hh.1, Int.mul_le_mul (by omega) (by omega) hh.1 (by omega)⟩
      rw [hr.rem (by omega), hr.1, iI_sub, iI_mul, ← hr.1, hr.rem (by omega), neg_mod, nI_add]
      exact kk
    · rw [nI_ltI (by omega) (by omega)] at h3; omega
  | r + 1, t, ht => by
    refine w11_34 hs hx ⟨fun h3 => ?_, fun _ => ⟨t + 1, rfl, by omega, i - (t + 1), pk_sub (by omega), by omega, ?_⟩⟩
    · rw [nI_ltI (by omega) (by omega)] at h3; omega
    · rw [hc (t + 1) (by omega), hy (i - (t + 1)) (by omega), iI_mul, iI_add, nI_add]
      exact k_invt_i hs hx hr hh hi hin hc hy oc oy kk r (t + 1) (by omega)
theorem k_invt_o (hs : qSh g) (hx : qSer g x) (h13 : 13 < x) (hr : kR I p M) (h1 : kS I x n c) (ho : okS p n c)
    (k : ∀ I', am I 13 n (fun j => iI (sInv p n c j)) I' → Q none g (va_up I' (x + 1) (va_cpy (I' 13) (I' (x + 1)) 0 0 n)) J) : ∀ (r i : Nat) (I' : qI) (w4 w5 : Value), 1 ≤ i → i + r = n → am I 13 i (fun j => iI (sInv p n c j)) I' → qev (d + 1) 11 (20, [.ref 12, .ref x, .int (iI (iv p (c 0))), .int (nI i), w4, w5], [], g, I', J) Q
  | 0, i, I', w4, w5, h0, hi, hA => by
    have h24 := ho.1
    have e0 : I' x 1 = nI n := by rw [hA.1 x (by omega)]; exact h1.1
    have en : i = n := by omega
    rw [en] at hA
    refine w11_20 hs hx ⟨fun _ => ⟨0, 0, n, rfl, rfl, e0, by omega, by omega, k I' hA⟩, fun h3 => ?_⟩
    · rw [e0, nI_leI (by omega) (by omega)] at h3; omega
  | r + 1, i, I', w4, w5, h0, hi, hA => by
    have h24 := ho.1
    have h2 := hr.p2
    have e0 : I' x 1 = nI n := by rw [hA.1 x (by omega)]; exact h1.1
    have hr1 : kR I' p M := hr.frame (hA.1 12 (by omega))
    obtain ⟨j, rfl⟩ : ∃ j, i = j + 1 := ⟨i - 1, by omega⟩
    have oS := sInv_ok (c := c) (show 0 < p by omega) (show 1 ≤ n by omega) h24
    refine w11_20 hs hx ⟨fun h3 => ?_, fun _ => ?_⟩
    · rw [e0, nI_leI (by omega) (by omega)] at h3; omega
    · have h9 := k_invt_i (d := d) (Q := Q) (J := J) (Y := sInv p n c) (c := c) (n := n) (i := j + 1) hs hx hr1 (iv_red (by omega) (c 0)) (by omega) (by omega) (fun t ht => by rw [hA.1 _ (by omega)]; exact h1.2 t ht) hA.2.1 ho.2.1 oS.2.1 ?_ (j + 1) 0 (by omega)
      · exact h9
      · exact k_invt_o hs hx h13 hr h1 ho k r (j + 1 + 1) _ _ _ (by omega) (by omega) (am_s hA (by rw [sInv_at (by omega)]))
theorem k_invt (hs : qSh g) (hx : qSer g x) (h13 : 13 < x) (hr : kR I p M) (h1 : kS I x n c) (ho : okS p n c) (hn : 1 ≤ n) (k : ∀ I', kS I' x n (sInv p n c) → (∀ b, b ≠ 13 → b ≠ x + 1 → I' b = I b) → Q none g I' J) : qC (d + 1) 11 [.ref 12, .ref x] g I J Q := by
  have h2 := hr.p2
  have h24 := ho.1
  have hc0 := ho.2.1 0
  refine w11 hs hx (k_inv hs hr (v := c 0) (by omega) (h1.2 0 (by omega)) ⟨_, rfl, ?_⟩)
  rw [ho.red]
  refine k_invt_o hs hx h13 hr h1 ho (fun I' hA => k _ ⟨?_, fun i hi => ?_⟩ (fun b b1 b2 => by rw [zv_a b2]; exact hA.1 b b1)) (n - 1) 1 _ qpad qpad (Nat.le_refl _) (by omega) (am_s (am_0 _ _ _) (by unfold sInv; rw [ppl_z]))
  · rw [zv_a (by omega), hA.1 x (by omega)]; exact h1.1
  · rw [zv_s, pk_cpy_in (by omega) (by omega), show 0 + (i - 0) = i by omega]; exact hA.2.1 i hi
/-! derivative, integral -/
def sDer (p n : Nat) (c : Nat → Int) : Nat → Int := zx p (n - 1) (fun j => c (j + 1) * ((j : Int) + 1))
theorem k_der_l (hs : qSh g) (hx : qSer g x) (h13 : 13 < x) (hr : kR I p M) (h1 : kS I x n c) (ho : okS p n c) (k : ∀ I', am I (x + 1) (n - 1) (fun j => iI (c (j + 1) * ((j : Int) + 1) % p)) I' → Q (some (.int (-1))) g (qw I' x 1 (nI (n - 1))) J) : ∀ r i I', 1 ≤ i → i + r = n → am I (x + 1) (i - 1) (fun j => iI (c (j + 1) * ((j : Int) + 1) % p)) I' → qev d 13 (12, [.ref 12, .ref x, .int (nI i)], [], g, I', J) Q
  | 0, i, I', h0, hi, hA => by
    have h24 := ho.1
    have e0 : I' x 1 = nI n := by rw [hA.1 x (by omega)]; exact h1.1
    refine w13_12 hs hx ⟨fun _ => ?_, fun h3 => ?_⟩
    · rw [e0, pk_sub (by omega)]
      rw [show i = n by omega] at hA
      exact k I' hA
    · rw [e0, nI_leI (by omega) (by omega)] at h3; omega
  | r + 1, i, I', h0, hi, hA => by
    have h24 := ho.1
    have h2 := hr.p2
    have e0 : I' x 1 = nI n := by rw [hA.1 x (by omega)]; exact h1.1
    have hr1 : kR I' p M := hr.frame (hA.1 12 (by omega))
    have b1 := ho.2.1 i
    have b4 : 0 ≤ c i * (i : Int) ∧ c i * (i : Int) ≤ 997 * 24 := ⟨Int.mul_nonneg b1.1 (by omega), Int.mul_le_mul (by omega) (by omega) (by omega) (by omega)⟩
    refine w13_12 hs hx ⟨fun h3 => ?_, fun _ => ⟨i, rfl, by omega, hr1.nz, i - 1, pk_sub h0, by omega, ?_⟩⟩
    · rw [e0, nI_leI (by omega) (by omega)] at h3; omega
    · have a1 : I' (x + 1) i = iI (c i) := by rw [hA.2.2 i (by omega)]; exact h1.2 i (by omega)
      rw [a1, nI_add, nI_iI i, iI_mul, hr1.rem (by omega)]
      refine k_der_l hs hx h13 hr h1 ho k r (i + 1) _ (by omega) (by omega) ?_
      have h9 := am_s (w := iI (c i * (i : Int) % p)) hA (by
        rw [show i - 1 + 1 = i by omega, show ((i - 1 : Nat) : Int) + 1 = (i : Int) by omega])
      rw [show i - 1 + 1 = i + 1 - 1 by omega] at h9
      exact h9
theorem k_der (hs : qSh g) (hx : qSer g x) (h13 : 13 < x) (hr : kR I p M) (h1 : kS I x n c) (ho : okS p n c) (k0 : n < 2 → Q (some (.int (nI 5))) g I J) (k : 2 ≤ n → ∀ I', kS I' x (n - 1) (sDer p n c) → (∀ b, b ≠ x → b ≠ x + 1 → I' b = I b) → Q (some (.int (-1))) g I' J) : qC d 13 [.ref 12, .ref x] g I J Q := by
  have h24 := ho.1
  refine w13 hx ⟨fun h3 => ?_, fun h3 => ?_⟩
  · rw [h1.1, nI_leI (by omega) (by omega)] at h3
    refine k_der_l hs hx h13 hr h1 ho (fun I' hA => k h3 _ ⟨zu_s, fun i hi => ?_⟩ (fun b a1 a2 => by rw [zu_a a1]; exact hA.1 b a2)) (n - 1) 1 I (Nat.le_refl _) (by omega) (am_0 _ _ _)
    rw [zu_a (by omega), hA.2.1 i hi]
    unfold sDer
    rw [zx_lt hi]
  · rw [h1.1, nI_leI (by omega) (by omega)] at h3
    exact k0 (by omega)
def sInt (p L : Nat) (c : Nat → Int) : Nat → Int := fun i => if i = 0 then 0 else if i < L then c (i - 1) * iv p (i : Int) % p else 0
theorem sInt_ok {p L : Nat} {c : Nat → Int} (hp : 0 < p) (h24 : L ≤ 24) : okS p L (sInt p L c) := by
  refine ⟨h24, fun i => ?_, fun i hi => ?_⟩
  · unfold sInt
    split
    · omega
    · split
      · exact ⟨Int.emod_nonneg _ (by omega), Int.emod_lt_of_pos _ (by omega)⟩
      · omega
  · unfold sInt
    split
    · rfl
    · rw [if_neg (by omega)]
theorem k_int_l (hs : qSh g) (hx : qSer g x) (h13 : 13 < x) (hr : kR I p M) {L : Nat} (hL : L ≤ 24) (hLp : L ≤ p) (hL1 : 1 ≤ L) (hc : ∀ i, i + 1 < L → I (x + 1) i = iI (c i)) (oc : ∀ i, 0 ≤ c i ∧ c i < p) (k : ∀ I', dm I (x + 1) 1 L (fun i => iI (c (i - 1) * iv p (i : Int) % p)) I' → Q (some (.int (-1))) g (qw (qw I' (x + 1) 0 (nI 0)) x 1 (nI L)) J) : ∀ t I', 1 ≤ t → t ≤ L → dm I (x + 1) t L (fun i => iI (c (i - 1) * iv p (i : Int) % p)) I' → qev (d + 1) 14 (47, [.ref 12, .ref x, .int (nI L), .int (nI (t - 1))], [], g, I', J) Q
  | 0, I', h0, _, _ => absurd h0 (by omega)
  | 1, I', h0, ht, hD => by
    refine w14_47 hs hx ⟨fun _ => k I' hD, fun h3 => ?_⟩
    rw [nI_ltI (by omega) (by omega)] at h3; omega
  | t + 2, I', h0, ht, hD => by
    have h2 := hr.p2
    have hr1 : kR I' p M := hr.frame (hD.1 12 (by omega))
    refine w14_47 hs hx ⟨fun h3 => ?_, fun _ => ⟨t, ?_, by omega, k_inv hs hr1 (v := ((t + 1 : Nat) : Int)) (by omega) (nI_iI _) ⟨_, rfl, hr1.nz, t + 1, rfl, by omega, ?_⟩⟩⟩
    · rw [nI_ltI (by omega) (by omega)] at h3; omega
    · rw [show t + 2 - 1 = t + 1 by omega, pk_sub (by omega), Nat.add_sub_cancel]
    · have a1 : I' (x + 1) t = iI (c t) := by rw [hD.2.2 t (Or.inl (by omega))]; exact hc t (by omega)
      have b1 := oc t
      have b2 := iv_red (p := p) (by omega) (((t + 1 : Nat) : Int) % p)
      have b4 : 0 ≤ c t * iv p (((t + 1 : Nat) : Int) % p) ∧ c t * iv p (((t + 1 : Nat) : Int) % p) ≤ 997 * 997 := ⟨Int.mul_nonneg b1.1 b2.1, Int.mul_le_mul (by omega) (by omega) b2.1 (by omega)⟩
      rw [a1, iI_mul, hr1.rem (by omega), show nI (t + 2 - 1) + (-1) = nI (t + 1 - 1) by rw [nI_iI, iI_zm1, iI_add, nI_iI]; congr 1; omega]
      refine k_int_l hs hx h13 hr hL hLp hL1 hc oc k (t + 1) _ (by omega) (by omega) (dm_s hD (by omega) ?_)
      rw [Int.emod_eq_of_lt (a := ((t + 1 : Nat) : Int)) (by omega) (by omega), Nat.add_sub_cancel]
theorem k_int (hs : qSh g) (hx : qSer g x) (h13 : 13 < x) (hr : kR I p M) (h1 : kS I x n c) (ho : okS p n c) (hn : 1 ≤ n) (k3 : p < min (n + 1) M → c (p - 1) ≠ 0 → Q (some (.int (nI 3))) g I J) (k : ¬ (p < min (n + 1) M ∧ c (p - 1) ≠ 0) → ∀ I', kS I' x (min (min (n + 1) M) p) (sInt p (min (min (n + 1) M) p) c) → (∀ b, b ≠ x → b ≠ x + 1 → I' b = I b) → Q (some (.int (-1))) g I' J) : qC (d + 1) 14 [.ref 12, .ref x] g I J Q := by
  have h24 := ho.1
  have h2 := hr.p2
  have hM := hr.2.2.2
  have fin : ¬ (p < min (n + 1) M ∧ c (p - 1) ≠ 0) → ∀ L, L = min (min (n + 1) M) p → qev (d + 1) 14 (47, [.ref 12, .ref x, .int (nI L), .int (nI L - nI 1)], [], g, I, J) Q := by
    intro hno L hL
    rw [pk_sub (by omega)]
    refine k_int_l (c := c) hs hx h13 hr (L := L) (by omega) (by omega) (by omega) (fun i hi => h1.2 i (by omega)) ho.2.1 (fun I' hD => ?_) L I (by omega) (Nat.le_refl _) (dm_0 _ _ _ _)
    refine k hno _ ?_ (fun b a1 a2 => by rw [zu_a a1, zu_a a2]; exact hD.1 b a2)
    rw [← hL]
    refine ⟨zu_s, fun i hi => ?_⟩
    rw [zu_a (by omega)]
    unfold sInt
    by_cases h0 : i = 0
    · rw [h0, zu_s, if_pos rfl]; exact nI_iI 0
    · rw [zu_k h0, hD.2.1 i (by omega) hi, if_neg h0, if_pos hi]
  refine w14 hs hx ?_
  rw [h1.1, hr.2.1, hr.1, nI_add, qmin_nI (by omega) (by omega), ← nI_iI]
  refine ⟨fun h3 => ?_, fun h3 => ⟨p - 1, pk_sub (by omega), ?_, fun h4 => ?_, fun h4 => ?_⟩⟩
  · rw [nI_leI (by omega) (by omega)] at h3
    exact fin (by omega) _ (by omega)
  · rw [nI_leI (by omega) (by omega)] at h3; omega
  · rw [nI_leI (by omega) (by omega)] at h3
    have b := ho.2.1 (p - 1)
    rw [h1.2 (p - 1) (by omega), iI_z0, iI_eq (by omega) (by omega)] at h4
    exact fin (fun h => h.2 h4) _ (by omega)
  · rw [nI_leI (by omega) (by omega)] at h3
    have b := ho.2.1 (p - 1)
    rw [h1.2 (p - 1) (by omega), iI_z0, iI_eq (by omega) (by omega)] at h4
    exact k3 (by omega) h4
end KAL2
