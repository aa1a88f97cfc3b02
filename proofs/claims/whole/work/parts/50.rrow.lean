/-! rows of the reference -/
def rB (I : qI) (r n k : Nat) (c : Nat → Int) : Prop := I 115 (25 * r) = nI n ∧ ∀ i, i < k → I 115 (25 * r + 1 + i) = iI (c i)
abbrev rS (I : qI) (r n : Nat) (c : Nat → Int) : Prop := rB I r n n c
def rR (I : qI) (p M : Nat) : Prop := I 105 7 = iI p ∧ I 105 8 = nI M ∧ pr p ∧ 2 ≤ M ∧ M ≤ 24
def rF (S : Nat → Prop) (I I' : qI) : Prop := (∀ a, a ≠ 115 → I' a = I a) ∧ ∀ j, ¬ S (j / 25) → I' 115 j = I 115 j
theorem rF.refl (S : Nat → Prop) (I : qI) : rF S I I := ⟨fun _ _ => rfl, fun _ _ => rfl⟩
theorem rF.trans {S : Nat → Prop} {I I1 I2 : qI} (h1 : rF S I I1) (h2 : rF S I1 I2) : rF S I I2 := ⟨fun a ha => by rw [h2.1 a ha, h1.1 a ha], fun j hj => by rw [h2.2 j hj, h1.2 j hj]⟩
theorem rF.mono {S T : Nat → Prop} {I I1 : qI} (h1 : rF S I I1) (h : ∀ q, S q → T q) : rF T I I1 := ⟨h1.1, fun j hj => h1.2 j (fun hs => hj (h _ hs))⟩
theorem rB.keep {S : Nat → Prop} {I I' : qI} {r n k : Nat} {c : Nat → Int} (h : rB I r n k c) (hf : rF S I I') (hr : ¬ S r) (hk : k ≤ 24) : rB I' r n k c :=
  ⟨by rw [hf.2 _ (by rw [show 25 * r / 25 = r by omega]; exact hr)]; exact h.1, fun i hi => by rw [hf.2 _ (by rw [show (25 * r + 1 + i) / 25 = r by omega]; exact hr)]; exact h.2 i hi⟩
theorem rR.keep {S : Nat → Prop} {I I' : qI} {p M : Nat} (h : rR I p M) (hf : rF S I I') : rR I' p M := ⟨by rw [hf.1 105 (by omega)]; exact h.1, by rw [hf.1 105 (by omega)]; exact h.2.1, h.2.2⟩
theorem rR.p2 {I : qI} {p M : Nat} (h : rR I p M) : 2 ≤ p ∧ p < 998 := ⟨h.2.2.1.two, h.2.2.1.2⟩
theorem rR.nz {I : qI} {p M : Nat} (h : rR I p M) : ¬ I 105 7 = 0 := by
  have := h.p2
  rw [h.1, iI_z0, iI_eq (by omega) (by omega)]
  omega
theorem rR.rem {I : qI} {p M : Nat} (h : rR I p M) {a : Int} (ha : 0 ≤ a ∧ a < 2147483648) : qrem (iI a) (I 105 7) = iI (a % p) := by
  have := h.p2
  rw [h.1, iI_rem ha (by omega)]
theorem rB_set {I : qI} {r n k : Nat} {c : Nat → Int} {v : Int32} (h : rB I r n k c) (hv : v = iI (c k)) : rB (qw I 115 (25 * r + 1 + k) v) r n (k + 1) c := by
  refine ⟨by rw [zu_k (by omega)]; exact h.1, fun i hi => ?_⟩
  by_cases hik : i = k
  · rw [hik, zu_s, hv]
  · rw [zu_k (by omega)]; exact h.2 i (by omega)
theorem rS_set {I : qI} {r n k : Nat} {c : Nat → Int} {v : Int} (h : rS I r n c) : rS (qw I 115 (25 * r + 1 + k) (iI v)) r n (fun i => if i = k then v else c i) := by
  refine ⟨by rw [zu_k (by omega)]; exact h.1, fun i hi => ?_⟩
  by_cases hik : i = k
  · rw [hik, zu_s]; dsimp only; rw [if_pos rfl]
  · rw [zu_k (by omega)]; dsimp only; rw [if_neg hik]; exact h.2 i hi
theorem rF_set {I : qI} {r k : Nat} {v : Int32} (hk : k < 24) : rF (fun q => q = r) I (qw I 115 (25 * r + 1 + k) v) := ⟨fun a ha => zu_a ha, fun j hj => zu_k (fun e => hj (by rw [e]; omega))⟩
theorem rF_len {I : qI} {r : Nat} {v : Int32} : rF (fun q => q = r) I (qw I 115 (25 * r) v) := ⟨fun a ha => zu_a ha, fun j hj => zu_k (fun e => hj (by rw [e]; omega))⟩
theorem rS_len {I : qI} {r n k m : Nat} {c : Nat → Int} (h : rB I r n k c) : rB (qw I 115 (25 * r) (nI m)) r m k c := ⟨zu_s, fun i hi => by rw [zu_k (by omega)]; exact h.2 i hi⟩
theorem r25 (r : Nat) : nI 25 * nI r = nI (25 * r) := pk_mul 25 r
theorem r25i (r i : Nat) : nI 25 * nI r + nI 1 + nI i = nI (25 * r + 1 + i) := by rw [pk_mul, nI_add, nI_add]
section RROW
variable {d : Nat} {g : qG} {I : qI} {J : qJ} {Q : qQ} {p M n m r s to : Nat} {c e : Nat → Int}
theorem r_len (hs : qSh g) (hr : r < 48) (h1 : I 115 (25 * r) = nI n) (k : Q (some (.int (nI n))) g I J) : qC d 180 [.ref 105, .int (nI r)] g I J Q :=
  w180 hs ⟨25 * r, r25 r, by omega, by rw [h1]; exact k⟩
theorem r_setLen (hs : qSh g) (hr : r < 48) {v : Int32} (k : Q none g (qw I 115 (25 * r) v) J) : qC d 181 [.ref 105, .int (nI r), .int v] g I J Q := w181 hs ⟨25 * r, r25 r, by omega, k⟩
theorem r_c (hs : qSh g) (hr : r < 48) (h1 : rS I r n c) (hn : n ≤ 24) (hz : ∀ i, n ≤ i → c i = 0) {i : Nat} (hi : i < 1000) {w : Int32} (hw : w = nI i) (k : Q (some (.int (iI (c i)))) g I J) : qC d 182 [.ref 105, .int (nI r), .int w] g I J Q := by
  subst hw
  refine w182 hs ⟨25 * r, r25 r, by omega, fun h3 => ?_, fun h3 => ⟨25 * r + 1 + i, r25i r i, ?_, ?_⟩⟩
  · rw [h1.1, nI_leI (by omega) (by omega)] at h3
    rw [hz i h3] at k
    rwa [show iI 0 = nI 0 from (nI_iI 0).symm] at k
  · rw [h1.1, nI_leI (by omega) (by omega)] at h3; omega
  · rw [h1.1, nI_leI (by omega) (by omega)] at h3
    rw [h1.2 i (by omega)]; exact k
theorem r_set (hs : qSh g) (hr : r < 48) {i : Nat} (hi : i < 24) {w v : Int32} (hw : w = nI i) (k : Q none g (qw I 115 (25 * r + 1 + i) v) J) : qC d 183 [.ref 105, .int (nI r), .int w, .int v] g I J Q := by
  subst hw
  exact w183 hs ⟨25 * r + 1 + i, r25i r i, by omega, k⟩
theorem r_copy_l (hs : qSh g) (hs1 : s < 48) (ht : to < 48) (hne : s ≠ to) (k : ∀ I', rF (fun q => q = to) I I' → (∀ j, j < 25 → I' 115 (25 * to + j) = I 115 (25 * s + j)) → Q none g I' J) : ∀ f i I', i + f = 25 → rF (fun q => q = to) I I' → (∀ j, j < i → I' 115 (25 * to + j) = I 115 (25 * s + j)) → qev d 184 (2, [.ref 105, .int (nI s), .int (nI to), .int (nI i)], [], g, I', J) Q
  | 0, i, I', hi, hF, hA => by
    refine w184_2 hs ⟨fun _ => k I' hF (fun j hj => hA j (by omega)), fun h3 => ?_⟩
    rw [nI_leI (by omega) (by omega)] at h3; omega
  | f + 1, i, I', hi, hF, hA => by
    refine w184_2 hs ⟨fun h3 => ?_, fun _ => ⟨25 * s + i, by rw [pk_mul, nI_add], by omega, 25 * to + i, by rw [pk_mul, nI_add], by omega, ?_⟩⟩
    · rw [nI_leI (by omega) (by omega)] at h3; omega
    · rw [nI_add]
      refine r_copy_l hs hs1 ht hne k f (i + 1) _ (by omega) (hF.trans ⟨fun a ha => zu_a ha, fun j hj => zu_k (fun e => hj (by rw [e]; omega))⟩) (fun j hj => ?_)
      by_cases hji : j = i
      · rw [hji, zu_s]
        exact hF.2 _ (by rw [show (25 * s + i) / 25 = s by omega]; exact hne)
      · rw [zu_k (by omega)]; exact hA j (by omega)
theorem r_copy (hs : qSh g) (hs1 : s < 48) (ht : to < 48) (hne : s ≠ to) (h1 : rS I s n c) (hn : n ≤ 24) (k : ∀ I', rS I' to n c → rF (fun q => q = to) I I' → Q none g I' J) : qC d 184 [.ref 105, .int (nI s), .int (nI to)] g I J Q := by
  refine w184 (r_copy_l hs hs1 ht hne (fun I' hF hA => k I' ⟨?_, fun i hi => ?_⟩ hF) 25 0 I (by omega) (rF.refl _ _) (fun j hj => absurd hj (Nat.not_lt_zero j)))
  · have := hA 0 (by omega)
    rw [Nat.add_zero, Nat.add_zero] at this
    rw [this]; exact h1.1
  · have := hA (1 + i) (by omega)
    rw [← Nat.add_assoc, ← Nat.add_assoc] at this
    rw [this]; exact h1.2 i hi
theorem r_ord_l (hs : qSh g) (hr : r < 48) (h1 : rS I r n c) (ho : okS p n c) (hp : p < 998) : ∀ f i, i + f = n → Q (some (.int (nI (odf c f i)))) g I J → qev (d + 1) 185 (2, [.ref 105, .int (nI r), .int (nI i)], [], g, I, J) Q
  | 0, i, hi, h => by
    have h24 := ho.1
    refine w185_2 hs (r_len hs hr h1.1 ⟨_, rfl, fun _ => h, fun h2 => ?_⟩)
    rw [nI_leI (by omega) (by omega)] at h2; omega
  | f + 1, i, hi, h => by
    have h24 := ho.1
    refine w185_2 hs (r_len hs hr h1.1 ⟨_, rfl, fun h2 => ?_, fun h2 => r_c hs hr h1 h24 ho.2.2 (by omega) rfl ⟨_, rfl, fun h3 => ?_, fun h3 => ?_⟩⟩)
    · rw [nI_leI (by omega) (by omega)] at h2; omega
    · rw [iI_z0, iI_eq (by have := ho.2.1 i; omega) (by omega)] at h3
      rw [odf, if_pos h3] at h
      rw [nI_add]
      exact r_ord_l hs hr h1 ho hp f (i + 1) (by omega) h
    · rw [iI_z0, iI_eq (by have := ho.2.1 i; omega) (by omega)] at h3
      rw [odf, if_neg h3] at h
      exact h
theorem r_ord (hs : qSh g) (hr : r < 48) (h1 : rS I r n c) (ho : okS p n c) (hp : p < 998) (h : Q (some (.int (nI (od n c)))) g I J) : qC (d + 1) 185 [.ref 105, .int (nI r)] g I J Q :=
  w185 (r_ord_l hs hr h1 ho hp n 0 (by omega) h)
theorem r_least {a b : Nat} (ha : a < 2 ^ 31) (hb : b < 2 ^ 31) (k : Q (some (.int (nI (min a b)))) g I J) : qC d 186 [.int (nI a), .int (nI b)] g I J Q := by
  refine w186 ⟨fun h => ?_, fun h => ?_⟩
  · rw [nI_leI hb ha] at h; rwa [show min a b = b by omega] at k
  · rw [nI_leI hb ha] at h; rwa [show min a b = a by omega] at k
theorem r_by (hs : qSh g) (hr : rR I p M) {z : Int} (hz : -4611686018427387904 < z ∧ z < 4611686018427387904) {w : Int64} (hw : w = iL z) (k : Q (some (.int (iI (z % p)))) g I J) : qC d 178 [.ref 105, .long w] g I J Q := by
  subst hw
  have hp := hr.p2
  have e : (I 105 7).toInt64 = iL p := by rw [hr.1, iI_l (by omega)]
  have b1 := Int.tmod_lt_of_pos z (show (0 : Int) < p by omega)
  have b2 := Int.lt_tmod_of_pos z (show (0 : Int) < p by omega)
  have b3 := Int.emod_nonneg z (show (p : Int) ≠ 0 by omega)
  have b4 := Int.emod_lt_of_pos z (show (0 : Int) < p by omega)
  have hn : (p : Int).natAbs = p := by omega
  have et := @Int.tmod_eq_emod z p
  refine w178 hs ?_
  rw [e, iL_rem (by omega) (by omega), lN_iL]
  refine ⟨?_, fun h3 => ?_, fun h3 => ?_⟩
  · rw [show (0 : Int64) = iL 0 by decide +kernel, iL_eq (by omega) (by omega)]; omega
  · rw [lg_cmp_ge, iL_le (by omega) (by omega)] at h3
    rw [iL_i]
    have e2 : z.tmod p = z % p := by
      by_cases hz0 : 0 ≤ z
      · exact Int.tmod_eq_emod_of_nonneg hz0
      · split at et <;> omega
    rw [e2]; exact k
  · rw [lg_cmp_ge, iL_le (by omega) (by omega)] at h3
    rw [iL_add, iL_i]
    have e2 : z.tmod p + p = z % p := by
      split at et <;> omega
    rw [e2]; exact k
theorem r_inv_l (hs : qSh g) (hr : rR I p M) {v : Int} (hv : 0 ≤ v ∧ v < p) (k : Q (some (.int (iI (iv p v)))) g I J) : ∀ f i, i + f = p - 2 → qev d 179 (4, [.ref 105, .int (iI v), .int (iI (v ^ i % p)), .int (nI i)], [], g, I, J) Q
  | 0, i, hi => by
    have hp := hr.p2
    refine w179_4 hs ⟨fun _ => ?_, fun h3 => ?_⟩
    · rw [show i = p - 2 by omega]; exact k
    · rw [hr.1, ← nI_iI, pk_sub (by omega), nI_leI (by omega) (by omega)] at h3; omega
  | f + 1, i, hi => by
    have hp := hr.p2
    refine w179_4 hs ⟨fun h3 => ?_, fun _ => ⟨hr.nz, ?_⟩⟩
    · rw [hr.1, ← nI_iI, pk_sub (by omega), nI_leI (by omega) (by omega)] at h3; omega
    · have b3 := Int.emod_nonneg (v ^ i) (show (p : Int) ≠ 0 by omega)
      have b4 := Int.emod_lt_of_pos (v ^ i) (show (0 : Int) < p by omega)
      have b5 : 0 ≤ v ^ i % p * v ∧ v ^ i % p * v ≤ 997 * 997 := ⟨Int.mul_nonneg b3 hv.1, Int.mul_le_mul (by omega) (by omega) hv.1 (by omega)⟩
      rw [iI_mul, hr.rem (by omega), em_l, ← Int.pow_succ, nI_add]
      exact r_inv_l hs hr hv k f (i + 1) (by omega)
theorem r_inv (hs : qSh g) (hr : rR I p M) {v : Int} (hv : 0 ≤ v ∧ v < p) (k : Q (some (.int (iI (iv p v)))) g I J) : qC d 179 [.ref 105, .int (iI v)] g I J Q := by
  have hp := hr.p2
  refine w179 ?_
  have h9 := r_inv_l (d := d) hs hr hv k (p - 2) 0 (by omega)
  rw [Int.pow_zero, Int.emod_eq_of_lt (by omega) (by omega)] at h9
  rwa [show nI 1 = iI 1 from nI_iI 1]
/-- a number's row -/
def sNumV (v : Int) : Nat → Int := fun i => if i = 0 then v else 0
theorem r_num_l (hs : qSh g) (hr : rR I p M) (ht : to < 48) {v : Int} (k : ∀ I', rS I' to M (sNumV v) → rF (fun q => q = to) I I' → Q none g I' J) : ∀ f i I', i + f = M → rB I' to M i (sNumV v) → rF (fun q => q = to) I I' → qev (d + 1) 187 (11, [.ref 105, .int (nI to), .int (iI v), .int (nI i)], [], g, I', J) Q
  | 0, i, I', hi, hA, hF => by
    have hr1 := hr.keep hF
    have e : i = M := by omega
    subst e
    refine w187_11 hs ⟨fun _ => k I' hA hF, fun h3 => ?_⟩
    rw [hr1.2.1] at h3
    exact absurd (Int32.le_refl _) h3
  | f + 1, i, I', hi, hA, hF => by
    have hr1 := hr.keep hF
    have hM := hr.2.2.2
    refine w187_11 hs ⟨fun h3 => ?_, fun _ => ⟨fun h4 => ?_, fun h4 => ?_⟩⟩
    · rw [hr1.2.1, nI_leI (by omega) (by omega)] at h3; omega
    · rw [← nI_0, nI_eq (by omega) (by omega)] at h4
      subst h4
      refine r_set hs ht (by omega) rfl ⟨rfl, ?_⟩
      rw [nI_add]
      exact r_num_l hs hr ht k f (0 + 1) _ (by omega) (rB_set hA rfl) (hF.trans (rF_set (by omega)))
    · rw [← nI_0, nI_eq (by omega) (by omega)] at h4
      refine r_set hs ht (by omega) rfl ⟨rfl, ?_⟩
      rw [nI_add]
      exact r_num_l hs hr ht k f (i + 1) _ (by omega) (rB_set hA (by unfold sNumV; rw [if_neg h4]; exact nI_iI 0)) (hF.trans (rF_set (by omega)))
theorem r_num (hs : qSh g) (hr : rR I p M) (ht : to < 48) {v : Int} {w : Int32} (hw : w = iI v) (k : ∀ I', rS I' to M (sNumV v) → rF (fun q => q = to) I I' → Q none g I' J) : qC (d + 1) 187 [.ref 105, .int (nI to), .int w] g I J Q := by
  subst hw
  refine w187 hs ?_
  rw [hr.2.1]
  refine r_setLen hs ht ⟨rfl, r_num_l hs hr ht k M 0 _ (by omega) ⟨zu_s, fun i hi => absurd hi (Nat.not_lt_zero i)⟩ rF_len⟩
/-! products -/
theorem r_pl_l (hs : qSh g) (hr : r < 48) (hs1 : s < 48) (h1 : rS I r n c) (h2 : rS I s m e) (o1 : okS p n c) (o2 : okS p m e) (hp : p < 998) {kk : Nat} (hk : kk < 100) (k : Q (some (.long (iL (cv c e kk)))) g I J) : ∀ f i, i + f = kk + 1 → qev (d + 1) 188 (6, [.ref 105, .int (nI r), .int (nI s), .int (nI kk), .long (iL (sm (fun i => c i * e (kk - i)) i)), qpad, .int (nI i)], [], g, I, J) Q
  | 0, i, hi => by
    refine w188_6 hs ⟨fun _ => ?_, fun h3 => ?_⟩
    · rw [show i = kk + 1 by omega]; exact k
    · rw [nI_ltI (by omega) (by omega)] at h3; omega
  | f + 1, i, hi => by
    refine w188_6 hs ⟨fun h3 => ?_, fun _ => r_c hs hr h1 o1.1 o1.2.2 (i := i) (by omega) rfl ⟨_, rfl, r_c hs hs1 h2 o2.1 o2.2.2 (i := kk - i) (by omega) (pk_sub (by omega)) ⟨_, rfl, ?_⟩⟩⟩
    · rw [nI_ltI (by omega) (by omega)] at h3; omega
    · have b1 := o1.2.1 i
      have b2 := o2.2.1 (kk - i)
      have b4 : 0 ≤ c i * e (kk - i) ∧ c i * e (kk - i) ≤ 997 * 997 := ⟨Int.mul_nonneg b1.1 b2.1, Int.mul_le_mul (by omega) (by omega) b2.1 (by omega)⟩
      rw [iI_mul, iI_l (by omega), iL_add, nI_add]
      exact r_pl_l hs hr hs1 h1 h2 o1 o2 hp hk k f (i + 1) (by omega)
theorem r_pl (hs : qSh g) (hr : r < 48) (hs1 : s < 48) (h1 : rS I r n c) (h2 : rS I s m e) (o1 : okS p n c) (o2 : okS p m e) (hp : p < 998) {kk : Nat} (hk : kk < 100) (k : Q (some (.long (iL (cv c e kk)))) g I J) : qC (d + 1) 188 [.ref 105, .int (nI r), .int (nI s), .int (nI kk)] g I J Q := by
  refine w188 ?_
  rw [lN_iL]
  exact r_pl_l hs hr hs1 h1 h2 o1 o2 hp hk k (kk + 1) 0 (by omega)
theorem cv_long {p n m : Nat} {c e : Nat → Int} (h1 : okS p n c) (h2 : okS p m e) (hp : p < 998) {k : Nat} (hk : k < 100) : 0 ≤ cv c e k ∧ cv c e k < 4294967296 := by
  have h := cv_bd h1 h2 hp k
  refine ⟨h.1, Int.lt_of_le_of_lt h.2 ?_⟩
  have : ((k + 1 : Nat) : Int) * (997 * 997) ≤ 100 * (997 * 997) := Int.mul_le_mul_of_nonneg_right (by omega) (by omega)
  omega
theorem r_mul_l (hs : qSh g) (hr : rR I p M) (hr1 : r < 48) (hs1 : s < 48) (ht : to < 48) (hne : r ≠ to ∧ s ≠ to) (h1 : rS I r n c) (h2 : rS I s m e) (o1 : okS p n c) (o2 : okS p m e) {L : Nat} (hL : L ≤ 24) (k : ∀ I', rS I' to L (zx p L (cv c e)) → rF (fun q => q = to) I I' → Q none g I' J) : ∀ f i I', i + f = L → rB I' to L i (zx p L (cv c e)) → rF (fun q => q = to) I I' → qev (d + 2) 189 (44, [.ref 105, .int (nI r), .int (nI s), .int (nI to), .int (nI L), .int (nI i)], [], g, I', J) Q
  | 0, i, I', hi, hA, hF => by
    have e : i = L := by omega
    subst e
    exact w189_44 hs ⟨fun _ => k I' hA hF, fun h3 => absurd (Int32.le_refl _) h3⟩
  | f + 1, i, I', hi, hA, hF => by
    have hp := hr.p2
    refine w189_44 hs ⟨fun h3 => ?_, fun _ => r_pl hs hr1 hs1 (h1.keep hF hne.1 o1.1) (h2.keep hF hne.2 o2.1) o1 o2 hp.2 (by omega) ⟨_, rfl, ?_⟩⟩
    · rw [nI_leI (by omega) (by omega)] at h3; omega
    · have b := cv_long o1 o2 hp.2 (k := i) (by omega)
      refine r_by hs (hr.keep hF) (z := cv c e i) (by omega) rfl ⟨_, rfl, r_set hs ht (by omega) rfl ⟨rfl, ?_⟩⟩
      rw [nI_add]
      exact r_mul_l hs hr hr1 hs1 ht hne h1 h2 o1 o2 hL k f (i + 1) _ (by omega) (rB_set hA (by rw [zx_lt (by omega)])) (hF.trans (rF_set (by omega)))
theorem r_mul (hs : qSh g) (hr : rR I p M) (hr1 : r < 48) (hs1 : s < 48) (ht : to < 48) (hne : r ≠ to ∧ s ≠ to) (h1 : rS I r n c) (h2 : rS I s m e) (o1 : okS p n c) (o2 : okS p m e) (k : ∀ I', rS I' to (mln M n c m e) (zx p (mln M n c m e) (cv c e)) → rF (fun q => q = to) I I' → Q none g I' J) : qC (d + 2) 189 [.ref 105, .int (nI r), .int (nI s), .int (nI to)] g I J Q := by
  have hp := hr.p2
  have hM := hr.2.2.2
  have a1 := o1.1
  have a2 := o2.1
  have v1 := od_le n c
  have v2 := od_le m e
  refine w189 hs (r_ord hs hr1 h1 o1 hp.2 ⟨_, rfl, r_len hs hs1 h2.1 ⟨_, rfl, r_ord hs hs1 h2 o2 hp.2 ⟨_, rfl, r_len hs hr1 h1.1 ⟨_, rfl, ?_⟩⟩⟩⟩)
  rw [nI_add, nI_add, hr.2.1]
  refine r_least (by omega) (by omega) ⟨_, rfl, r_least (by omega) (by omega) ⟨_, rfl, r_setLen hs ht ⟨rfl, ?_⟩⟩⟩
  exact r_mul_l (L := mln M n c m e) hs hr hr1 hs1 ht hne h1 h2 o1 o2 (by unfold mln; omega) k (mln M n c m e) 0 _ (by omega) ⟨zu_s, fun i hi => absurd hi (Nat.not_lt_zero i)⟩ rF_len
theorem r_cuts_l (hs : qSh g) (hr : rR I p M) (hr1 : r < 48) (hs1 : s < 48) (ht : to < 48) (hne : r ≠ to ∧ s ≠ to) (h1 : rS I r n c) (h2 : rS I s m e) (o1 : okS p n c) (o2 : okS p m e) {L : Nat} (hL : L ≤ 24) (k : ∀ I', rS I' to L (zx p L (cv c e)) → rF (fun q => q = to) I I' → Q none g I' J) : ∀ f i I', i + f = L → rB I' to L i (zx p L (cv c e)) → rF (fun q => q = to) I I' → qev (d + 2) 192 (10, [.ref 105, .int (nI r), .int (nI s), .int (nI to), .int (nI L), .int (nI i)], [], g, I', J) Q
  | 0, i, I', hi, hA, hF => by
    have e : i = L := by omega
    subst e
    exact w192_10 hs ⟨fun _ => k I' hA hF, fun h3 => absurd (Int32.le_refl _) h3⟩
  | f + 1, i, I', hi, hA, hF => by
    have hp := hr.p2
    refine w192_10 hs ⟨fun h3 => ?_, fun _ => r_pl hs hr1 hs1 (h1.keep hF hne.1 o1.1) (h2.keep hF hne.2 o2.1) o1 o2 hp.2 (by omega) ⟨_, rfl, ?_⟩⟩
    · rw [nI_leI (by omega) (by omega)] at h3; omega
    · have b := cv_long o1 o2 hp.2 (k := i) (by omega)
      refine r_by hs (hr.keep hF) (z := cv c e i) (by omega) rfl ⟨_, rfl, r_set hs ht (by omega) rfl ⟨rfl, ?_⟩⟩
      rw [nI_add]
      exact r_cuts_l hs hr hr1 hs1 ht hne h1 h2 o1 o2 hL k f (i + 1) _ (by omega) (rB_set hA (by rw [zx_lt (by omega)])) (hF.trans (rF_set (by omega)))
theorem r_cuts (hs : qSh g) (hr : rR I p M) (hr1 : r < 48) (hs1 : s < 48) (ht : to < 48) (hne : r ≠ to ∧ s ≠ to) (h1 : rS I r n c) (h2 : rS I s m e) (o1 : okS p n c) (o2 : okS p m e) {L : Nat} (hL : L ≤ 24) (k : ∀ I', rS I' to L (zx p L (cv c e)) → rF (fun q => q = to) I I' → Q none g I' J) : qC (d + 2) 192 [.ref 105, .int (nI r), .int (nI s), .int (nI to), .int (nI L)] g I J Q :=
  w192 hs (r_setLen hs ht ⟨rfl, r_cuts_l hs hr hr1 hs1 ht hne h1 h2 o1 o2 hL k L 0 _ (by omega) ⟨zu_s, fun i hi => absurd hi (Nat.not_lt_zero i)⟩ rF_len⟩)
theorem r_blank_l (hs : qSh g) (ht : to < 48) {L : Nat} (hL : L ≤ 24) (k : ∀ I', rS I' to L (fun _ => 0) → rF (fun q => q = to) I I' → Q none g I' J) : ∀ f i I', i + f = L → rB I' to L i (fun _ => 0) → rF (fun q => q = to) I I' → qev (d + 1) 193 (8, [.ref 105, .int (nI to), .int (nI L), .int (nI i)], [], g, I', J) Q
  | 0, i, I', hi, hA, hF => by
    have e : i = L := by omega
    subst e
    exact w193_8 hs ⟨fun _ => k I' hA hF, fun h3 => absurd (Int32.le_refl _) h3⟩
  | f + 1, i, I', hi, hA, hF => by
    refine w193_8 hs ⟨fun h3 => ?_, fun _ => r_set hs ht (by omega) rfl ⟨rfl, ?_⟩⟩
    · rw [nI_leI (by omega) (by omega)] at h3; omega
    · rw [nI_add]
      exact r_blank_l hs ht hL k f (i + 1) _ (by omega) (rB_set hA (nI_iI 0)) (hF.trans (rF_set (by omega)))
theorem r_blank (hs : qSh g) (ht : to < 48) {L : Nat} (hL : L ≤ 24) (k : ∀ I', rS I' to L (fun _ => 0) → rF (fun q => q = to) I I' → Q none g I' J) : qC (d + 1) 193 [.ref 105, .int (nI to), .int (nI L)] g I J Q :=
  w193 hs (r_setLen hs ht ⟨rfl, r_blank_l hs ht hL k L 0 _ (by omega) ⟨zu_s, fun i hi => absurd hi (Nat.not_lt_zero i)⟩ rF_len⟩)
end RROW
