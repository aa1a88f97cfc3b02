/-! what the reference does with rows -/
abbrev rUp (r : Nat) : Nat → Prop := fun q => r ≤ q
section ROP
variable {d : Nat} {g : qG} {I : qI} {J : qJ} {Q : qQ} {p M n m r s to : Nat} {c e : Nat → Int}
theorem r_c' (hs : qSh g) (hr : r < 48) (h1 : rS I r n c) (ho : okS p n c) {i : Nat} (hi : i < 1000) {w : Int32} (hw : w = nI i) (k : Q (some (.int (iI (c i)))) g I J) : qC d 182 [.ref 105, .int (nI r), .int w] g I J Q := r_c hs hr h1 ho.1 ho.2.2 hi hw k
theorem ppl_ok {F : Nat → (Nat → Int) → Int} {h : Int} (hh : 0 ≤ h ∧ h < p) (hF : ∀ k y, 0 ≤ F k y ∧ F k y < p) (h24 : n ≤ 24) {k : Nat} (hk : k < n) : okS p n (ppl F h k) :=
  ⟨h24, ppl_red (by omega) hh hF k, fun i hi => ppl_hi k i (by omega)⟩
theorem rS_ppl {F : Nat → (Nat → Int) → Int} {h : Int} {k : Nat} (h1 : rS I r n (ppl F h k)) : rS (qw I 115 (25 * r + 1 + (k + 1)) (iI (F (k + 1) (ppl F h k)))) r n (ppl F h (k + 1)) := rS_set h1
theorem r_invt_k (hs : qSh g) (hr : rR I p M) (hr1 : r < 48) (ht : to < 48) (hne : r ≠ to) (h1 : rS I r n c) (ho : okS p n c) (k : ∀ I', rS I' to n (sInv p n c) → rF (fun q => q = to) I I' → Q none g I' J) : ∀ f i I', i + 1 + f = n → rS I' to n (ppl (invF p c (iv p (c 0))) (iv p (c 0)) i) → rF (fun q => q = to) I I' → qev (d + 2) 190 (58, [.ref 105, .int (nI r), .int (nI to), .int (nI n), .int (iI (iv p (c 0))), .int (nI (i + 1))], [], g, I', J) Q
  | 0, i, I', hi, hA, hF => by
    have e : n - 1 = i := by omega
    have h24 := ho.1
    refine w190_58 hs ⟨fun _ => k I' ?_ hF, fun h3 => ?_⟩
    · unfold sInv; rw [e]; exact hA
    · rw [nI_leI (by omega) (by omega)] at h3; omega
  | f + 1, i, I', hi, hA, hF => by
    have hp := hr.p2
    have h24 := ho.1
    have rd := iv_red (p := p) (by omega) (c 0)
    have oY := ppl_ok (p := p) (n := n) (F := invF p c (iv p (c 0))) rd (fun k y => ⟨Int.emod_nonneg _ (by omega), Int.emod_lt_of_pos _ (by omega)⟩) h24 (k := i) (by omega)
    refine w190_58 hs ⟨fun h3 => ?_, fun _ => r_pl hs hr1 ht (h1.keep hF hne ho.1) hA ho oY hp.2 (by omega) ⟨_, rfl, ?_⟩⟩
    · rw [nI_leI (by omega) (by omega)] at h3; omega
    · have b := cv_long ho oY hp.2 (k := i + 1) (by omega)
      have b2 : -(cv c (ppl (invF p c (iv p (c 0))) (iv p (c 0)) i) (i + 1) * iv p (c 0)) ≤ 0 ∧ cv c (ppl (invF p c (iv p (c 0))) (iv p (c 0)) i) (i + 1) * iv p (c 0) ≤ 4294967296 * 998 := ⟨by have := Int.mul_nonneg b.1 rd.1; omega, Int.mul_le_mul (by omega) (by omega) rd.1 (by omega)⟩
      refine r_by hs (hr.keep hF) (z := -(cv c (ppl (invF p c (iv p (c 0))) (iv p (c 0)) i) (i + 1)) * iv p (c 0)) (by rw [Int.neg_mul]; omega) (by rw [iL_neg, iI_l (by omega), iL_mul]) ⟨_, rfl, r_set hs ht (i := i + 1) (by omega) rfl ⟨rfl, ?_⟩⟩
      rw [nI_add]
      exact r_invt_k hs hr hr1 ht hne h1 ho k f (i + 1) _ (by omega) (rS_ppl hA) (hF.trans (rF_set (by omega)))
theorem r_invt_z (hs : qSh g) (hr : rR I p M) (hr1 : r < 48) (ht : to < 48) (hne : r ≠ to) (h1 : rS I r n c) (ho : okS p n c) (hn : 1 ≤ n) (k : ∀ I', rS I' to n (sInv p n c) → rF (fun q => q = to) I I' → Q none g I' J) : ∀ f i I', i + f = n → rB I' to n i (fun _ => 0) → rF (fun q => q = to) I I' → qev (d + 2) 190 (27, [.ref 105, .int (nI r), .int (nI to), .int (nI n), .int (iI (iv p (c 0))), .int (nI i)], [], g, I', J) Q
  | 0, i, I', hi, hA, hF => by
    have e : i = n := by omega
    subst e
    refine w190_27 hs ⟨fun _ => r_set hs ht (i := 0) (by omega) rfl ⟨rfl, ?_⟩, fun h3 => absurd (Int32.le_refl _) h3⟩
    exact r_invt_k hs hr hr1 ht hne h1 ho k (i - 1) 0 _ (by omega) (rS_set hA) (hF.trans (rF_set (by omega)))
  | f + 1, i, I', hi, hA, hF => by
    have h24 := ho.1
    refine w190_27 hs ⟨fun h3 => ?_, fun _ => r_set hs ht (i := i) (by omega) rfl ⟨rfl, ?_⟩⟩
    · rw [nI_leI (by omega) (by omega)] at h3; omega
    · rw [nI_add]
      exact r_invt_z hs hr hr1 ht hne h1 ho hn k f (i + 1) _ (by omega) (rB_set hA (nI_iI 0)) (hF.trans (rF_set (by omega)))
theorem r_invt (hs : qSh g) (hr : rR I p M) (hr1 : r < 48) (ht : to < 48) (hne : r ≠ to) (h1 : rS I r n c) (ho : okS p n c) (hn : 1 ≤ n) (k : ∀ I', rS I' to n (sInv p n c) → rF (fun q => q = to) I I' → Q none g I' J) : qC (d + 2) 190 [.ref 105, .int (nI r), .int (nI to)] g I J Q :=
  w190 hs (r_len hs hr1 h1.1 ⟨_, rfl, r_c' hs hr1 h1 ho (i := 0) (by omega) rfl ⟨_, rfl, r_inv hs hr (ho.2.1 0) ⟨_, rfl, r_setLen hs ht ⟨rfl, r_invt_z hs hr hr1 ht hne h1 ho hn k n 0 _ (by omega) ⟨zu_s, fun i hi => absurd hi (Nat.not_lt_zero i)⟩ rF_len⟩⟩⟩⟩)
theorem r_shift_l (hs : qSh g) (hr1 : r < 48) (ho : okS p n c) {v : Nat} (hv : v ≤ n) (k : ∀ I', rS I' r (n - v) (shf v c) → rF (fun q => q = r) I I' → Q none g I' J) : ∀ f i I', i + f = n - v → rS I' r n (fun j => if j < i then c (j + v) else c j) → rF (fun q => q = r) I I' → qev (d + 1) 191 (11, [.ref 105, .int (nI r), .int (nI v), .int (nI (n - v)), .int (nI i)], [], g, I', J) Q
  | 0, i, I', hi, hA, hF => by
    have e : n - v = i := by omega
    rw [e]
    rw [e] at k
    refine w191_11 hs ⟨fun _ => r_setLen hs hr1 ⟨rfl, k _ ⟨zu_s, fun j hj => ?_⟩ (hF.trans rF_len)⟩, fun h3 => absurd (Int32.le_refl _) h3⟩
    rw [zu_k (by omega), hA.2 j (by omega)]
    dsimp only
    rw [if_pos hj]
    rfl
  | f + 1, i, I', hi, hA, hF => by
    have h24 := ho.1
    refine w191_11 hs ⟨fun h3 => ?_, fun _ => r_c hs hr1 hA h24 (fun j hj => by rw [if_neg (by omega)]; exact ho.2.2 j hj) (i := i + v) (by omega) (nI_add i v) ⟨_, rfl, r_set hs hr1 (i := i) (by omega) rfl ⟨rfl, ?_⟩⟩⟩
    · rw [nI_leI (by omega) (by omega)] at h3; omega
    · rw [nI_add, if_neg (by omega)]
      have h9 := rS_set (k := i) (v := c (i + v)) hA
      refine r_shift_l hs hr1 ho hv k f (i + 1) _ (by omega) ?_ (hF.trans (rF_set (by omega)))
      have ef : (fun j => if j = i then c (i + v) else if j < i then c (j + v) else c j) = (fun j => if j < i + 1 then c (j + v) else c j) := by
        funext j
        by_cases h1 : j = i
        · rw [if_pos h1, if_pos (by omega), h1]
        · rw [if_neg h1]
          by_cases h2 : j < i
          · rw [if_pos h2, if_pos (by omega)]
          · rw [if_neg h2, if_neg (by omega)]
      rw [← ef]
      exact h9
theorem r_shift (hs : qSh g) (hr1 : r < 48) (h1 : rS I r n c) (ho : okS p n c) {v : Nat} (hv : v ≤ n) (k : ∀ I', rS I' r (n - v) (shf v c) → rF (fun q => q = r) I I' → Q none g I' J) : qC (d + 1) 191 [.ref 105, .int (nI r), .int (nI v)] g I J Q := by
  refine w191 hs (r_len hs hr1 h1.1 ⟨_, rfl, ?_⟩)
  rw [pk_sub hv]
  refine r_shift_l hs hr1 ho hv k (n - v) 0 I (by omega) ?_ (rF.refl _ _)
  exact ⟨h1.1, fun i hi => by dsimp only; rw [if_neg (by omega)]; exact h1.2 i hi⟩
/-! quotient, powers -/
theorem r_div (hs : qSh g) (hr : rR I p M) (hr1 : r < 39) (h1 : rS I r n c) (h2 : rS I (r + 1) m e) (o1 : okS p n c) (o2 : okS p m e) (hn : 1 ≤ n) (hm : 1 ≤ m) (k0 : whyDiv n m c e ≠ -1 → Q (some (.int (iI (whyDiv n m c e)))) g I J) (k : whyDiv n m c e = -1 → ∀ I', rS I' r (qL p M n m c e) (sDiv p M n m c e) → rF (rUp r) I I' → Q (some (.int (-1))) g I' J) : qC (d + 3) 195 [.ref 105, .int (nI r)] g I J Q := by
  have a1 := o1.1
  have a2 := o2.1
  have v1 := od_le n c
  have v2 := od_le m e
  have hp := hr.p2
  have hM := hr.2.2.2
  have er : nI r + nI 1 = nI (r + 1) := nI_add r 1
  refine w195 hs ?_
  rw [er]
  refine r_ord hs (by omega) h2 o2 hp.2 ⟨_, rfl, r_len hs (by omega) h2.1 ⟨_, rfl, fun h3 => ?_, fun h3 => r_ord hs (by omega) h1 o1 hp.2 ⟨_, rfl, fun h4 => r_len hs (by omega) h1.1 ⟨_, rfl, fun h5 => ?_, fun h5 => ?_⟩, fun h4 => ?_⟩⟩⟩
  · rw [nI_eq (by omega) (by omega)] at h3
    have e9 : whyDiv n m c e = 2 := if_pos (Or.inl h3)
    rw [e9] at k0
    have := k0 (by omega)
    rwa [show iI 2 = nI 2 from (nI_iI 2).symm] at this
  · rw [nI_eq (by omega) (by omega)] at h3
    rw [nI_leI (by omega) (by omega)] at h4
    rw [nI_eq (by omega) (by omega)] at h5
    have e9 : whyDiv n m c e = 5 := by unfold whyDiv; rw [if_neg (by omega), if_pos h5]
    rw [e9] at k0
    have := k0 (by omega)
    rwa [show iI 5 = nI 5 from (nI_iI 5).symm] at this
  · rw [nI_eq (by omega) (by omega)] at h3
    rw [nI_leI (by omega) (by omega)] at h4
    rw [nI_eq (by omega) (by omega)] at h5
    have e9 : whyDiv n m c e = -1 := by unfold whyDiv; rw [if_neg (by omega), if_neg h5]
    refine r_shift hs (by omega) h1 o1 (by omega) (fun I1 b1 f1 => ⟨rfl, r_shift hs (by omega) (h2.keep f1 (by omega) a2) o2 v2 (fun I2 c1 f2 => ⟨rfl, ?_⟩)⟩)
    have hr2 := (hr.keep f1).keep f2
    refine r_invt hs hr2 (by omega) (to := 40) (by omega) (by omega) c1 (shf_ok o2) (by omega) (fun I3 d1 f3 => ⟨rfl, ?_⟩)
    have x3 : rS I3 r (n - od m e) (shf (od m e) c) := (b1.keep f2 (by omega) (by omega)).keep f3 (by omega) (by omega)
    refine r_mul hs (hr2.keep f3) (by omega) (s := 40) (by omega) (to := 41) (by omega) (by omega) x3 d1 (shf_ok o1) (sInv_ok (by omega) (by omega) (by omega)) (fun I4 e1 f4 => ⟨rfl, ?_⟩)
    refine r_copy hs (s := 41) (by omega) (by omega) (by omega) e1 (by unfold mln; omega) (fun I5 g1 f5 => ⟨rfl, k e9 I5 g1 ?_⟩)
    exact (f1.mono (fun q h => by show r ≤ q; omega)).trans ((f2.mono (fun q h => by show r ≤ q; omega)).trans ((f3.mono (fun q h => by show r ≤ q; omega)).trans ((f4.mono (fun q h => by show r ≤ q; omega)).trans (f5.mono (fun q h => by show r ≤ q; omega)))))
  · rw [nI_leI (by omega) (by omega)] at h4
    have e9 : whyDiv n m c e = 2 := if_pos (Or.inr (by omega))
    rw [e9] at k0
    have := k0 (by omega)
    rwa [show iI 2 = nI 2 from (nI_iI 2).symm] at this
theorem r_pow_l (hs : qSh g) (hr : rR I p M) (hr1 : r < 40) (ho : okS p n c) (hn : 1 ≤ n) (hnM : n ≤ M) {ex : Nat} (hex : ex < 1000) (k : ∀ I', rS I' r (pL M (od n c) n ex) (pC p M (od n c) n c ex) → rF (rUp r) I I' → Q (some (.int (-1))) g I' J) : ∀ f i I', i + f = ex → 1 ≤ i → rS I' r (pL M (od n c) n i) (pC p M (od n c) n c i) → rS I' 40 n c → rF (rUp r) I I' → qev (d + 3) 196 (25, [.ref 105, .int (nI r), .int (nI ex), .int (nI i)], [], g, I', J) Q
  | 0, i, I', hi, h0, hA, hW, hF => by
    have e : i = ex := by omega
    subst e
    exact w196_25 hs ⟨fun _ => k I' hA hF, fun h3 => absurd (Int32.le_refl _) h3⟩
  | f + 1, i, I', hi, h0, hA, hW, hF => by
    have hp := hr.p2
    have hM := hr.2.2.2
    have h24 := ho.1
    refine w196_25 hs ⟨fun h3 => ?_, fun _ => ?_⟩
    · rw [nI_leI (by omega) (by omega)] at h3; omega
    · refine r_mul hs (hr.keep hF) (by omega) (s := 40) (by omega) (to := 41) (by omega) (by omega) hA hW (pC_ok (by omega) hM.2 _) ho (fun I2 a1 f2 => ⟨rfl, ?_⟩)
      obtain ⟨m1, m2⟩ := pC_mul hr.2.2.1 (show 1 ≤ M by omega) ho hn i 1 (Nat.le_refl _)
      obtain ⟨q1, q2⟩ := pC_1 ho hnM (od n c)
      rw [q1, q2] at m1
      rw [q2] at m2
      rw [m1, m2] at a1
      have hl := pL_le M (od n c) n (i + 1)
      refine r_copy hs (s := 41) (by omega) (by omega) (by omega) a1 (by omega) (fun I3 b1 f3 => ⟨rfl, ?_⟩)
      rw [nI_add]
      exact r_pow_l hs hr hr1 ho hn hnM hex k f (i + 1) I3 (by omega) (by omega) b1 ((hW.keep f2 (by omega) h24).keep f3 (by omega) h24) (hF.trans ((f2.mono (fun q h => by show r ≤ q; omega)).trans (f3.mono (fun q h => by show r ≤ q; omega))))
theorem sNum_eq {p M n : Nat} {c : Nat → Int} (hp : 2 ≤ p) (hM : 1 ≤ M) (v : Nat) : sNumV (1 % p) = pC p M v n c 0 := by
  rw [(pC_0 hp hM v).2]
  rfl
theorem r_pow (hs : qSh g) (hr : rR I p M) (hr1 : r < 40) (h1 : rS I r n c) (ho : okS p n c) (hn : 1 ≤ n) (hnM : n ≤ M) {ex : Nat} (hex : ex < 1000) (k : ∀ I', rS I' r (pL M (od n c) n ex) (pC p M (od n c) n c ex) → rF (rUp r) I I' → Q (some (.int (-1))) g I' J) : qC (d + 3) 196 [.ref 105, .int (nI r), .int (nI ex)] g I J Q := by
  have hp := hr.p2
  have hM := hr.2.2.2
  refine w196 hs ⟨fun h3 => ?_, fun h3 => ?_⟩
  · rw [← nI_0, nI_eq (by omega) (by omega)] at h3
    subst h3
    refine r_by hs hr (z := 1) (by omega) (lN_iL 1) ⟨_, rfl, r_num hs hr (by omega) rfl (fun I1 a1 f1 => ⟨rfl, k I1 ?_ (f1.mono (fun q h => by show r ≤ q; omega))⟩)⟩
    rw [← sNum_eq hp.1 (by omega), (pC_0 (p := p) (M := M) (n := n) (c := c) hp.1 (by omega) (od n c)).1]
    exact a1
  · rw [← nI_0, nI_eq (by omega) (by omega)] at h3
    refine r_copy hs (by omega) (to := 40) (by omega) (by omega) h1 ho.1 (fun I1 a1 f1 => ⟨rfl, ?_⟩)
    have e1 := pC_1 ho hnM (od n c)
    refine r_pow_l hs hr hr1 ho hn hnM hex k (ex - 1) 1 I1 (by omega) (Nat.le_refl _) ?_ a1 (f1.mono (fun q h => by show r ≤ q; omega))
    rw [e1.1, e1.2]
    exact h1.keep f1 (by omega) ho.1
/-! derivative, integral, logarithm, exponential -/
def whyDer (n : Nat) : Int := if n < 2 then 5 else -1
theorem r_der_l (hs : qSh g) (hr : rR I p M) (hr1 : r < 48) (ho : okS p n c) (k : ∀ I', rS I' r (n - 1) (sDer p n c) → rF (fun q => q = r) I I' → Q (some (.int (-1))) g I' J) : ∀ f i I', i + f = n - 1 → rS I' r n (fun j => if j < i then sDer p n c j else c j) → rF (fun q => q = r) I I' → qev (d + 1) 197 (16, [.ref 105, .int (nI r), .int (nI (n - 1)), .int (nI i)], [], g, I', J) Q
  | 0, i, I', hi, hA, hF => by
    have e : n - 1 = i := by omega
    rw [e] at k ⊢
    refine w197_16 hs ⟨fun _ => r_setLen hs hr1 ⟨rfl, k _ ⟨zu_s, fun j hj => ?_⟩ (hF.trans rF_len)⟩, fun h3 => absurd (Int32.le_refl _) h3⟩
    rw [zu_k (by omega), hA.2 j (by omega)]
    dsimp only
    rw [if_pos hj]
  | f + 1, i, I', hi, hA, hF => by
    have h24 := ho.1
    have hp := hr.p2
    refine w197_16 hs ⟨fun h3 => ?_, fun _ => r_c hs hr1 hA h24 (fun j hj => by rw [if_neg (by omega)]; exact ho.2.2 j hj) (i := i + 1) (by omega) (nI_add i 1) ⟨_, rfl, ?_⟩⟩
    · rw [nI_leI (by omega) (by omega)] at h3; omega
    · rw [if_neg (by omega)]
      have b1 := ho.2.1 (i + 1)
      have b4 : 0 ≤ c (i + 1) * ((i : Int) + 1) ∧ c (i + 1) * ((i : Int) + 1) ≤ 997 * 24 := ⟨Int.mul_nonneg b1.1 (by omega), Int.mul_le_mul (by omega) (by omega) (by omega) (by omega)⟩
      refine r_by hs (hr.keep hF) (z := c (i + 1) * ((i : Int) + 1)) (by omega) (by rw [nI_add, nI_iI, iI_l (by omega), iI_l (by omega), iL_mul, Int.mul_comm]; rfl) ⟨_, rfl, r_set hs hr1 (i := i) (by omega) rfl ⟨rfl, ?_⟩⟩
      rw [nI_add]
      have ev : c (i + 1) * ((i : Int) + 1) % p = sDer p n c i := by unfold sDer; rw [zx_lt (by omega)]
      rw [ev]
      have h9 := rS_set (k := i) (v := sDer p n c i) hA
      refine r_der_l hs hr hr1 ho k f (i + 1) _ (by omega) ?_ (hF.trans (rF_set (by omega)))
      have ef : (fun j => if j = i then sDer p n c i else if j < i then sDer p n c j else c j) = (fun j => if j < i + 1 then sDer p n c j else c j) := by
        funext j
        by_cases h1 : j = i
        · rw [if_pos h1, if_pos (by omega), h1]
        · rw [if_neg h1]
          by_cases h2 : j < i
          · rw [if_pos h2, if_pos (by omega)]
          · rw [if_neg h2, if_neg (by omega)]
      rw [← ef]
      exact h9
theorem r_der (hs : qSh g) (hr : rR I p M) (hr1 : r < 48) (h1 : rS I r n c) (ho : okS p n c) (hn : 1 ≤ n) (k0 : n < 2 → Q (some (.int (nI 5))) g I J) (k : 2 ≤ n → ∀ I', rS I' r (n - 1) (sDer p n c) → rF (fun q => q = r) I I' → Q (some (.int (-1))) g I' J) : qC (d + 1) 197 [.ref 105, .int (nI r)] g I J Q := by
  have h24 := ho.1
  refine w197 hs (r_len hs hr1 h1.1 ⟨_, rfl, ?_⟩)
  rw [pk_sub hn]
  refine ⟨fun h3 => k0 ?_, fun h3 => ?_⟩
  · rw [← nI_0, nI_eq (by omega) (by omega)] at h3; omega
  · rw [← nI_0, nI_eq (by omega) (by omega)] at h3
    refine r_der_l hs hr hr1 ho (k (by omega)) (n - 1) 0 I (by omega) ⟨h1.1, fun i hi => ?_⟩ (rF.refl _ _)
    dsimp only
    rw [if_neg (by omega)]; exact h1.2 i hi
theorem r_int_l (hs : qSh g) (hr : rR I p M) (hr1 : r < 40) (ho : okS p n c) {L : Nat} (hL : L ≤ 24) (hLp : L ≤ p) (k : ∀ I', rS I' r L (sInt p L c) → rF (rUp r) I I' → Q (some (.int (-1))) g I' J) : ∀ f i I', i + f = L → 1 ≤ i → rB I' r L i (sInt p L c) → rS I' 40 n c → rF (rUp r) I I' → qev (d + 1) 198 (66, [.ref 105, .int (nI r), .int (nI L), .int (nI i)], [], g, I', J) Q
  | 0, i, I', hi, h0, hA, hW, hF => by
    have e : i = L := by omega
    subst e
    exact w198_66 hs ⟨fun _ => k I' hA hF, fun h3 => absurd (Int32.le_refl _) h3⟩
  | f + 1, i, I', hi, h0, hA, hW, hF => by
    have h24 := ho.1
    have hp := hr.p2
    have hr2 := hr.keep hF
    have b1 := ho.2.1 (i - 1)
    have b5 := iv_red (p := p) (by omega) (i : Int)
    have b4 : 0 ≤ c (i - 1) * iv p (i : Int) ∧ c (i - 1) * iv p (i : Int) ≤ 997 * 997 := ⟨Int.mul_nonneg b1.1 b5.1, Int.mul_le_mul (by omega) (by omega) b5.1 (by omega)⟩
    refine w198_66 hs ⟨fun h3 => ?_, fun _ => r_c' hs (by omega) hW ho (i := i - 1) (by omega) (pk_sub h0) ⟨_, rfl, r_by hs hr2 (z := (i : Int)) (by omega) (by rw [nI_iI, iI_l (by omega)]) ⟨_, rfl, ?_⟩⟩⟩
    · rw [nI_leI (by omega) (by omega)] at h3; omega
    · rw [Int.emod_eq_of_lt (a := (i : Int)) (by omega) (by omega)]
      refine r_inv hs hr2 (v := (i : Int)) (by omega) ⟨_, rfl, r_by hs hr2 (z := c (i - 1) * iv p (i : Int)) (by omega) (by rw [iI_l (by omega), iI_l (by omega), iL_mul]) ⟨_, rfl, r_set hs (by omega) (i := i) (by omega) rfl ⟨rfl, ?_⟩⟩⟩
      rw [nI_add]
      refine r_int_l hs hr hr1 ho hL hLp k f (i + 1) _ (by omega) (by omega) (rB_set hA ?_) (hW.keep (rF_set (r := r) (by omega)) (by omega) h24) (hF.trans ((rF_set (r := r) (by omega)).mono (fun q h => by show r ≤ q; omega)))
      unfold sInt
      rw [if_neg (by omega), if_pos (by omega)]
theorem r_int (hs : qSh g) (hr : rR I p M) (hr1 : r < 40) (h1 : rS I r n c) (ho : okS p n c) (hn : 1 ≤ n) (k : ∀ I', (whyInt p M n c = -1 → rS I' r (iLn p M n) (sInt p (iLn p M n) c)) → rF (rUp r) I I' → Q (some (.int (iI (whyInt p M n c)))) g I' J) : qC (d + 1) 198 [.ref 105, .int (nI r)] g I J Q := by
  have h24 := ho.1
  have hp := hr.p2
  have hM := hr.2.2.2
  have b0 := ho.2.1 (p - 1)
  have fin : whyInt p M n c = -1 → ∀ L, L = iLn p M n → qC d 184 [.ref 105, .int (nI r), .int (nI 40)] g I J (fun v _ I1 _ => v = none ∧ qC d 181 [.ref 105, .int (nI r), .int (nI L)] g I1 J (fun v _ I2 _ => v = none ∧ qC d 183 [.ref 105, .int (nI r), .int (nI 0), .int (nI 0)] g I2 J (fun v _ I3 _ => v = none ∧ qev (d + 1) 198 (66, [.ref 105, .int (nI r), .int (nI L), .int (nI 1)], [], g, I3, J) Q))) := by
    intro e9 L hL
    have hLb : 1 ≤ L ∧ L ≤ 24 ∧ L ≤ p := by unfold iLn at hL; omega
    refine r_copy hs (by omega) (to := 40) (by omega) (by omega) h1 h24 (fun I1 a1 f1 => ⟨rfl, r_setLen hs (by omega) ⟨rfl, r_set hs (by omega) (i := 0) (by omega) rfl ⟨rfl, ?_⟩⟩⟩)
    refine r_int_l hs hr hr1 ho (L := L) hLb.2.1 hLb.2.2 (fun I' b1 b2 => ?_) (L - 1) 1 _ (by omega) (Nat.le_refl _) (rB_set (k := 0) ⟨zu_s, fun i hi => absurd hi (Nat.not_lt_zero i)⟩ (by unfold sInt; rw [if_pos rfl]; exact nI_iI 0)) ((a1.keep (rF_len (r := r)) (by omega) h24).keep (rF_set (r := r) (by omega)) (by omega) h24) ((f1.mono (fun q h => by show r ≤ q; omega)).trans (((rF_len (r := r)).mono (fun q h => by show r ≤ q; omega)).trans ((rF_set (r := r) (by omega)).mono (fun q h => by show r ≤ q; omega))))
    have := k I' (fun _ => by rw [← hL]; exact b1) b2
    rw [e9] at this
    rwa [← iI_zm1] at this
  refine w198 hs (r_len hs (by omega) h1.1 ⟨_, rfl, ?_⟩)
  rw [nI_add, hr.2.1, hr.1, ← nI_iI]
  refine r_least (by omega) (by omega) ⟨_, rfl, fun h3 => ?_, fun h3 => ?_⟩
  · rw [nI_leI (by omega) (by omega)] at h3
    exact fin (if_neg (by omega)) _ (by unfold iLn; omega)
  · rw [nI_leI (by omega) (by omega)] at h3
    refine r_c' hs (by omega) h1 ho (i := p - 1) (by omega) (pk_sub (by omega)) ⟨_, rfl, fun h4 => ?_, fun h4 => ?_⟩
    · rw [iI_z0, iI_eq (by omega) (by omega)] at h4
      exact fin (if_neg (fun h => h.2 h4)) _ (by unfold iLn; omega)
    · rw [iI_z0, iI_eq (by omega) (by omega)] at h4
      have e9 : whyInt p M n c = 3 := if_pos ⟨by omega, h4⟩
      have := k I (fun h => by rw [e9] at h; omega) (rF.refl _ _)
      rw [e9] at this
      rwa [show iI 3 = nI 3 from (nI_iI 3).symm] at this
theorem r_log (hs : qSh g) (hr : rR I p M) (hr1 : r < 40) (h1 : rS I r n c) (ho : okS p n c) (hn : 1 ≤ n) (k : ∀ I', (whyLog p M n c = -1 → rS I' r (gLn p M n c) (sLog p M n c)) → rF (rUp r) I I' → Q (some (.int (iI (whyLog p M n c)))) g I' J) : qC (d + 3) 199 [.ref 105, .int (nI r)] g I J Q := by
  have h24 := ho.1
  have hp := hr.p2
  have hM := hr.2.2.2
  have b0 := ho.2.1 0
  refine w199 hs (r_c' hs (by omega) h1 ho (i := 0) (by omega) rfl ⟨_, rfl, r_by hs hr (z := 1) (by omega) (lN_iL 1) ⟨_, rfl, ?_⟩⟩)
  rw [Int.emod_eq_of_lt (a := 1) (by omega) (by omega)]
  refine ⟨fun h3 => r_len hs (by omega) h1.1 ⟨_, rfl, fun h4 => ?_, fun h4 => ?_⟩, fun h3 => ?_⟩
  · rw [iI_eq (by omega) (by omega)] at h3
    rw [nI_eq (by omega) (by omega)] at h4
    have e9 : whyLog p M n c = -1 := by unfold whyLog; rw [if_neg (fun h => h h3), if_pos h4]
    refine r_set hs (by omega) (i := 0) (by omega) rfl ⟨rfl, ?_⟩
    have := k (qw I 115 (25 * r + 1 + 0) (nI 0)) (fun _ => by
      unfold gLn sLog
      rw [if_pos h4, if_pos h4]
      refine ⟨by rw [zu_k (by omega), h1.1, h4], fun i hi => ?_⟩
      rw [show i = 0 by omega, zu_s]; exact nI_iI 0) ((rF_set (r := r) (by omega)).mono (fun q h => by show r ≤ q; omega))
    rw [e9] at this
    rwa [← iI_zm1] at this
  · rw [iI_eq (by omega) (by omega)] at h3
    rw [nI_eq (by omega) (by omega)] at h4
    refine r_invt hs hr (by omega) (to := 40) (by omega) (by omega) h1 ho hn (fun I1 a1 f1 => ⟨rfl, ?_⟩)
    refine r_der hs (hr.keep f1) (by omega) (h1.keep f1 (by omega) h24) ho hn (fun h => by omega) (fun _ I2 b1 f2 => ⟨_, rfl, ?_⟩)
    have hr2 := (hr.keep f1).keep f2
    refine r_mul hs hr2 (by omega) (s := 40) (by omega) (to := 41) (by omega) (by omega) b1 (a1.keep f2 (by omega) h24) (sDer_ok (by omega) h24) (sInv_ok (by omega) hn h24) (fun I3 c1 f3 => ⟨rfl, ?_⟩)
    have hl := lL_bd (p := p) (c := c) hM.1 (show 2 ≤ n by omega)
    refine r_copy hs (s := 41) (by omega) (by omega) (by omega) c1 (by unfold lL at hl; omega) (fun I4 d1 f4 => ⟨rfl, fun _ => ?_, fun h => absurd rfl h⟩)
    have fall : rF (rUp r) I I4 := (f1.mono (fun q h => by show r ≤ q; omega)).trans ((f2.mono (fun q h => by show r ≤ q; omega)).trans ((f3.mono (fun q h => by show r ≤ q; omega)).trans (f4.mono (fun q h => by show r ≤ q; omega))))
    refine r_int hs (hr.keep fall) hr1 d1 (zx_ok (by omega) (by unfold lL at hl; omega)) hl.1 (fun I5 e1 f5 => ⟨_, rfl, ?_⟩)
    have e9 : whyLog p M n c = whyInt p M (lL p M n c) (lP p M n c) := by unfold whyLog; rw [if_neg (fun h => h h3), if_neg h4]
    have := k I5 (fun h => by
      unfold gLn sLog
      rw [if_neg h4, if_neg h4]
      exact e1 (e9.symm.trans h)) (fall.trans f5)
    rw [e9] at this
    exact this
  · rw [iI_eq (by omega) (by omega)] at h3
    have e9 : whyLog p M n c = 2 := if_pos h3
    have := k I (fun h => by rw [e9] at h; omega) (rF.refl _ _)
    rw [e9] at this
    rwa [show iI 2 = nI 2 from (nI_iI 2).symm] at this
theorem r_exp_i (hs : qSh g) {I' : qI} (hr : rR I' p M) (hr1 : r < 40) (h1 : rS I' r n c) (ho : okS p n c) {Y : Nat → Int} {L i : Nat} (hW : rS I' 40 L Y) (oY : okS p L Y) (hi : i < 24) (hip : i < p) {i2 : Int32}
    (kk : qev (d + 1) 200 (45, [.ref 105, .int (nI r), .int i2, .int (nI (i + 1)), .long (iL (sm (expT p c i Y) i)), qpad, .int (nI (i + 1))], [], g, qw I' 115 (25 * 40 + 1 + i) (iI (expF p c i Y)), J) Q) :
    ∀ f t, t + f = i → qev (d + 1) 200 (56, [.ref 105, .int (nI r), .int i2, .int (nI i), .long (iL (sm (expT p c i Y) t)), qpad, .int (nI (t + 1))], [], g, I', J) Q
  | 0, t, ht => by
    have hp := hr.p2
    have et : t = i := by omega
    rw [et]
    have b1 := expT_bd (n := n) (k := i) (c := c) hp oY.2.1
    have b2 : (i : Int) * (997 * 997) ≤ 24 * (997 * 997) := Int.mul_le_mul_of_nonneg_right (by omega) (by omega)
    unfold expF at kk
    generalize sm (expT p c i Y) i = S at b1 kk ⊢
    have b3 : 0 ≤ S % p ∧ S % p < p := ⟨Int.emod_nonneg _ (by omega), Int.emod_lt_of_pos _ (by omega)⟩
    have b5 := iv_red (p := p) (by omega) (i : Int)
    have b4 : 0 ≤ S % p * iv p (i : Int) ∧ S % p * iv p (i : Int) ≤ 997 * 997 := ⟨Int.mul_nonneg (by omega) b5.1, Int.mul_le_mul (by omega) (by omega) b5.1 (by omega)⟩
    refine w200_56 hs ⟨fun _ => r_by hs hr (z := S) (by omega) rfl ⟨_, rfl, r_by hs hr (z := (i : Int)) (by omega) (by rw [nI_iI, iI_l (by omega)]) ⟨_, rfl, ?_⟩⟩, fun h3 => ?_⟩
    · rw [Int.emod_eq_of_lt (a := (i : Int)) (by omega) (by omega)]
      refine r_inv hs hr (v := (i : Int)) (by omega) ⟨_, rfl, r_by hs hr (z := S % p * iv p (i : Int)) (by omega) (by rw [iI_l (by omega), iI_l (by omega), iL_mul]) ⟨_, rfl, r_set hs (r := 40) (by omega) (i := i) hi rfl ⟨rfl, ?_⟩⟩⟩
      rw [nI_add]
      exact kk
    · rw [nI_ltI (by omega) (by omega)] at h3; omega
  | f + 1, t, ht => by
    have hp := hr.p2
    have b1 := ho.2.1 (t + 1)
    have b4 : 0 ≤ ((t : Int) + 1) * c (t + 1) ∧ ((t : Int) + 1) * c (t + 1) ≤ 24 * 997 := ⟨Int.mul_nonneg (by omega) b1.1, Int.mul_le_mul (by omega) (by omega) b1.1 (by omega)⟩
    have b3 : 0 ≤ ((t : Int) + 1) * c (t + 1) % p ∧ ((t : Int) + 1) * c (t + 1) % p < p := ⟨Int.emod_nonneg _ (by omega), Int.emod_lt_of_pos _ (by omega)⟩
    have b6 := oY.2.1 (i - (t + 1))
    refine w200_56 hs ⟨fun h3 => ?_, fun _ => r_c' hs (by omega) h1 ho (i := t + 1) (by omega) rfl ⟨_, rfl, r_by hs hr (z := ((t : Int) + 1) * c (t + 1)) (by omega) (by rw [nI_iI, iI_l (by omega), iI_l (by omega), iL_mul]; rfl) ⟨_, rfl, r_c' hs (r := 40) (by omega) hW oY (i := i - (t + 1)) (by omega) (pk_sub (by omega)) ⟨_, rfl, ?_⟩⟩⟩⟩
    · rw [nI_ltI (by omega) (by omega)] at h3; omega
    · rw [iI_l (by omega), iI_l (by omega), iL_mul, iL_add, nI_add]
      exact r_exp_i hs hr hr1 h1 ho hW oY hi hip kk f (t + 1) (by omega)
theorem r_exp_o (hs : qSh g) (hr : rR I p M) (hr1 : r < 40) (h1 : rS I r n c) (ho : okS p n c) {L : Nat} (hL : L ≤ 24) (hLp : L ≤ p) (hLn : L ≤ n) (k : ∀ I', rS I' r L (sExp p L c) → rF (rUp r) I I' → Q (some (.int (-1))) g I' J) : ∀ (f i : Nat) (I' : qI) (w4 w6 : Value), i + 1 + f = L → rS I' 40 L (ppl (expF p c) 1 i) → rF (fun q => q = 40) I I' → qev (d + 1) 200 (45, [.ref 105, .int (nI r), .int (nI L), .int (nI (i + 1)), w4, qpad, w6], [], g, I', J) Q
  | 0, i, I', w4, w6, hi, hA, hF => by
    have e : L - 1 = i := by omega
    refine w200_45 hs ⟨fun _ => r_copy hs (s := 40) (by omega) (by omega) (by omega) hA hL (fun I1 a1 f1 => ⟨rfl, k I1 ?_ ((hF.mono (fun q h => by show r ≤ q; omega)).trans (f1.mono (fun q h => by show r ≤ q; omega)))⟩), fun h3 => ?_⟩
    · unfold sExp; rw [e]; exact a1
    · rw [nI_leI (by omega) (by omega)] at h3; omega
  | f + 1, i, I', w4, w6, hi, hA, hF => by
    have hp := hr.p2
    have oY := ppl_ok (p := p) (n := L) (F := expF p c) (h := 1) (by omega) (fun k y => ⟨Int.emod_nonneg _ (by omega), Int.emod_lt_of_pos _ (by omega)⟩) hL (k := i) (by omega)
    refine w200_45 hs ⟨fun h3 => ?_, fun _ => ?_⟩
    · rw [nI_leI (by omega) (by omega)] at h3; omega
    · have h9 := r_exp_i (d := d) (Q := Q) (J := J) (i2 := nI L) (Y := ppl (expF p c) 1 i) (L := L) (i := i + 1) hs (hr.keep hF) hr1 (h1.keep hF (by omega) ho.1) ho hA oY (by omega) (by omega) ?_ (i + 1) 0 (by omega)
      · rw [lN_iL]; exact h9
      · exact r_exp_o hs hr hr1 h1 ho hL hLp hLn k f (i + 1) _ _ _ (by omega) (rS_ppl hA) (hF.trans (rF_set (by omega)))
theorem r_exp (hs : qSh g) (hr : rR I p M) (hr1 : r < 40) (h1 : rS I r n c) (ho : okS p n c) (hn : 1 ≤ n) (k0 : c 0 ≠ 0 → Q (some (.int (nI 2))) g I J) (k : c 0 = 0 → ∀ I', rS I' r (min n p) (sExp p (min n p) c) → rF (rUp r) I I' → Q (some (.int (-1))) g I' J) : qC (d + 2) 200 [.ref 105, .int (nI r)] g I J Q := by
  have h24 := ho.1
  have hp := hr.p2
  have b0 := ho.2.1 0
  refine w200 hs (r_c' hs (by omega) h1 ho (i := 0) (by omega) rfl ⟨_, rfl, fun h3 => r_len hs (by omega) h1.1 ⟨_, rfl, ?_⟩, fun h3 => ?_⟩)
  · rw [iI_z0, iI_eq (by omega) (by omega)] at h3
    rw [hr.1, ← nI_iI]
    refine r_least (by omega) (by omega) ⟨_, rfl, r_blank hs (to := 40) (by omega) (by omega) (fun I1 a1 f1 => ⟨rfl, r_by hs (hr.keep f1) (z := 1) (by omega) (lN_iL 1) ⟨_, rfl, r_set hs (r := 40) (by omega) (i := 0) (by omega) rfl ⟨rfl, ?_⟩⟩⟩)⟩
    rw [Int.emod_eq_of_lt (a := 1) (by omega) (by omega)]
    exact r_exp_o (L := min n p) hs hr hr1 h1 ho (by omega) (by omega) (by omega) (k h3) (min n p - 1) 0 _ qpad qpad (by omega) (rS_set a1) (f1.trans (rF_set (by omega)))
  · rw [iI_z0, iI_eq (by omega) (by omega)] at h3
    exact k0 h3
end ROP
