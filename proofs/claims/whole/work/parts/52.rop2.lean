/-! reversions, roots, compositions of the reference -/
section RO2
variable {d : Nat} {g : qG} {I : qI} {J : qJ} {Q : qQ} {p M n m r s to : Nat} {c e : Nat → Int}
theorem zx_cv {p L : Nat} {f f' c : Nat → Int} (h : pE p L f f') : zx p L (cv f c) = zx p L (cv f' c) := by
  funext i
  by_cases hi : i < L
  · rw [zx_lt hi, zx_lt hi]
    exact dvd_emod.mp (h.mul (pE.refl p L c) i hi)
  · rw [zx_ge (by omega), zx_ge (by omega)]
theorem rS.trunc {I : qI} {r n L : Nat} {c : Nat → Int} (h : rS I r n c) (ho : okS p n c) (hL : L ≤ n) : rS (qw I 115 (25 * r) (nI L)) r L (zx p L c) :=
  ⟨zu_s, fun i hi => by rw [zu_k (by omega), zx_lt hi, ho.red]; exact h.2 i (by omega)⟩
theorem r_wit_l (hs : qSh g) (hr : rR I p M) (hr1 : r < 40) (h1 : rS I r n c) (ho : okS p n c) (h2 : rS I 40 m e) (oe : okS p m e) (hc0 : c 0 = 0) (he0 : e 0 = 0) {kk : Nat} (hk : kk < n ∧ kk < m ∧ 1 ≤ kk) (k : ∀ I', rF (fun q => q = 41 ∨ q = 42) I I' → Q (some (.int (iI (cp c e kk % p)))) g I' J) : ∀ (f i : Nat) (I' : qI), i + 1 + f = kk + 1 → rS I' 41 (kk + 1) (zx p (kk + 1) (pw e (if i = 0 then 1 else i))) → rF (fun q => q = 41 ∨ q = 42) I I' →
    qev (d + 3) 201 (22, [.ref 105, .int (nI r), .int (nI 40), .int (nI kk), .long (iL (sm (fun j => c j * (pw e j kk % p)) (i + 1))), qpad, .int (nI (i + 1))], [], g, I', J) Q
  | f, i, I', hi, hA, hF => by
    have hp := hr.p2
    have h24 := ho.1
    have hr2 := hr.keep hF
    have h1' := h1.keep hF (by omega) h24
    have h2' := h2.keep hF (by omega) oe.1
    have md : ∀ a : Int, 0 ≤ a % p ∧ a % p < p := fun a => ⟨Int.emod_nonneg _ (by omega), Int.emod_lt_of_pos _ (by omega)⟩
    have bS : ∀ t, t ≤ 24 → 0 ≤ sm (fun j => c j * (pw e j kk % p)) t ∧ sm (fun j => c j * (pw e j kk % p)) t ≤ 24 * (997 * 997) := fun t ht => by
      have b1 : 0 ≤ sm (fun j => c j * (pw e j kk % p)) t ∧ sm (fun j => c j * (pw e j kk % p)) t ≤ (t : Int) * (997 * 997) := sm_bd (fun j _ => ⟨Int.mul_nonneg (ho.2.1 j).1 (md _).1, Int.mul_le_mul (by have := ho.2.1 j; omega) (by have := md (pw e j kk); omega) (md _).1 (by omega)⟩)
      have b2 : (t : Int) * (997 * 997) ≤ 24 * (997 * 997) := Int.mul_le_mul_of_nonneg_right (by omega) (by omega)
      omega
    have eS : sm (fun j => c j * (pw e j kk % p)) (kk + 1) % p = cp c e kk % p := by
      rw [← sm_emod]
      unfold cp
      rw [← sm_emod (fun j => c j * pw e j kk)]
      congr 1
      exact sm_congr (fun j _ => by rw [em_r])
    cases f with
    | zero =>
      have e9 : i = kk := by omega
      refine w201_22 hs ⟨fun _ => r_by hs hr2 (z := sm (fun j => c j * (pw e j kk % p)) (i + 1)) (by have := bS (i + 1) (by omega); omega) rfl ⟨_, rfl, ?_⟩, fun h3 => ?_⟩
      · rw [e9, eS]; exact k I' hF
      · rw [nI_ltI (by omega) (by omega)] at h3; omega
    | succ f =>
      have b2 := md (pw e (i + 1) kk)
      have b3 := ho.2.1 (i + 1)
      refine w201_22 hs ⟨fun h3 => ?_, fun _ => r_len hs (by omega) h1'.1 ⟨_, rfl, fun h3 => ?_, fun h3 => ⟨fun h4 => ?_, fun h4 => ?_⟩⟩⟩
      · rw [nI_ltI (by omega) (by omega)] at h3; omega
      · rw [nI_leI (by omega) (by omega)] at h3; omega
      · rw [nI_leI (by omega) (by omega)] at h4
        have e0 : i = 0 := by omega
        subst e0
        rw [if_pos rfl] at hA
        refine r_c' hs (by omega) h1' ho (i := 0 + 1) (by omega) rfl ⟨_, rfl, r_c' hs (r := 41) (by omega) hA (zx_ok (by omega) (by omega)) (i := kk) (by omega) rfl ⟨_, rfl, ?_⟩⟩
        rw [zx_lt (by omega), iI_l (by omega), iI_l (by have := md (pw e 1 kk); omega), iL_mul, iL_add, nI_add]
        exact r_wit_l hs hr hr1 h1 ho h2 oe hc0 he0 hk k f 1 I' (by omega) (by rw [if_neg (by omega)]; exact hA) hF
      · rw [nI_leI (by omega) (by omega)] at h4
        rw [if_neg (by omega)] at hA
        rw [nI_add]
        refine r_cuts hs hr2 (r := 41) (by omega) (s := 40) (by omega) (to := 42) (by omega) (by omega) hA h2' (zx_ok (by omega) (by omega)) oe (L := kk + 1) (by omega) (fun I2 a1 f2 => ⟨rfl, ?_⟩)
        rw [zx_cv (zx_E (Nat.le_refl _)), ← pw_s] at a1
        refine r_copy hs (s := 42) (by omega) (to := 41) (by omega) (by omega) a1 (by omega) (fun I3 b1 f3 => ⟨rfl, ?_⟩)
        have f23 : rF (fun q => q = 41 ∨ q = 42) I I3 := hF.trans ((f2.mono (fun q h => Or.inr h)).trans (f3.mono (fun q h => Or.inl h)))
        refine r_c' hs (by omega) (h1.keep f23 (by omega) h24) ho (i := i + 1) (by omega) rfl ⟨_, rfl, r_c' hs (r := 41) (by omega) b1 (zx_ok (by omega) (by omega)) (i := kk) (by omega) rfl ⟨_, rfl, ?_⟩⟩
        rw [zx_lt (by omega), iI_l (by omega), iI_l (by omega), iL_mul, iL_add, nI_add]
        exact r_wit_l hs hr hr1 h1 ho h2 oe hc0 he0 hk k f (i + 1) I3 (by omega) (by rw [if_neg (by omega)]; exact b1) f23
theorem r_wit (hs : qSh g) (hr : rR I p M) (hr1 : r < 40) (h1 : rS I r n c) (ho : okS p n c) (h2 : rS I 40 m e) (oe : okS p m e) (hc0 : c 0 = 0) (he0 : e 0 = 0) {kk : Nat} (hk : kk < n ∧ kk < m ∧ 1 ≤ kk) (k : ∀ I', rF (fun q => q = 41 ∨ q = 42) I I' → Q (some (.int (iI (cp c e kk % p)))) g I' J) : qC (d + 3) 201 [.ref 105, .int (nI r), .int (nI 40), .int (nI kk)] g I J Q := by
  refine w201 hs (r_copy hs (s := 40) (by omega) (to := 41) (by omega) (by omega) h2 oe.1 (fun I1 a1 f1 => ⟨rfl, ?_⟩))
  rw [nI_add]
  refine r_setLen hs (r := 41) (by omega) ⟨rfl, ?_⟩
  have h9 := r_wit_l (d := d) (Q := Q) (J := J) hs hr hr1 h1 ho h2 oe hc0 he0 hk k kk 0 (qw I1 115 (25 * 41) (nI (kk + 1))) (by omega) ?_ ((f1.mono (fun q h => Or.inl h)).trans ((rF_len (r := 41)).mono (fun q h => Or.inl h)))
  · rw [show sm (fun j => c j * (pw e j kk % p)) (0 + 1) = 0 by rw [sm_s, hc0, Int.zero_mul]; rfl] at h9
    rw [lN_iL]
    exact h9
  · rw [if_pos rfl, pw_1]
    exact a1.trunc oe (by omega)
theorem r_rev_l (hs : qSh g) (hr : rR I p M) (hr1 : r < 40) (h1 : rS I r n c) (ho : okS p n c) (hn : 2 ≤ n) (hc0 : c 0 = 0) {hd : Int} (hhd : 0 ≤ hd ∧ hd < p) (k : ∀ I', rS I' r n (ppl (revF p c hd) 0 (n - 1)) → rF (rUp r) I I' → Q (some (.int (-1))) g I' J) : ∀ (f i : Nat) (I' : qI), i + 1 + f = n → 1 ≤ i → rS I' 40 n (ppl (revF p c hd) 0 i) → rF (rUp 40) I I' → qev (d + 4) 202 (64, [.ref 105, .int (nI r), .int (nI n), .int (iI hd), .int (nI (i + 1))], [], g, I', J) Q
  | 0, i, I', hi, h0, hA, hF => by
    have h24 := ho.1
    have e : n - 1 = i := by omega
    refine w202_64 hs ⟨fun _ => r_copy hs (s := 40) (by omega) (by omega) (by omega) hA h24 (fun I1 a1 f1 => ⟨rfl, k I1 ?_ ((hF.mono (fun q h => by show r ≤ q; have : 40 ≤ q := h; omega)).trans (f1.mono (fun q h => by show r ≤ q; omega)))⟩), fun h3 => ?_⟩
    · rw [e]; exact a1
    · rw [nI_leI (by omega) (by omega)] at h3; omega
  | f + 1, i, I', hi, h0, hA, hF => by
    have h24 := ho.1
    have hp := hr.p2
    have hFr : ∀ k y, 0 ≤ revF p c hd k y ∧ revF p c hd k y < p := fun k y => by
      unfold revF
      split
      · exact hhd
      · exact ⟨Int.emod_nonneg _ (by omega), Int.emod_lt_of_pos _ (by omega)⟩
    have oY := ppl_ok (p := p) (n := n) (F := revF p c hd) (h := 0) (by omega) hFr h24 (k := i) (by omega)
    refine w202_64 hs ⟨fun h3 => ?_, fun _ => r_wit hs (hr.keep hF) hr1 (h1.keep hF (by show ¬ 40 ≤ r; omega) h24) ho hA oY hc0 (ppl_z i) (kk := i + 1) (by omega) (fun I2 f2 => ⟨_, rfl, ?_⟩)⟩
    · rw [nI_leI (by omega) (by omega)] at h3; omega
    · have b1 : 0 ≤ cp c (ppl (revF p c hd) 0 i) (i + 1) % p ∧ cp c (ppl (revF p c hd) 0 i) (i + 1) % p < p := ⟨Int.emod_nonneg _ (by omega), Int.emod_lt_of_pos _ (by omega)⟩
      have b4 : 0 ≤ cp c (ppl (revF p c hd) 0 i) (i + 1) % p * hd ∧ cp c (ppl (revF p c hd) 0 i) (i + 1) % p * hd ≤ 997 * 997 := ⟨Int.mul_nonneg b1.1 hhd.1, Int.mul_le_mul (by omega) (by omega) hhd.1 (by omega)⟩
      refine r_by hs ((hr.keep hF).keep f2) (z := -(cp c (ppl (revF p c hd) 0 i) (i + 1) % p) * hd) (by rw [Int.neg_mul]; omega) (by rw [iI_l (by omega), iI_l (by omega), iL_neg, iL_mul]) ⟨_, rfl, r_set hs (r := 40) (by omega) (i := i + 1) (by omega) rfl ⟨rfl, ?_⟩⟩
      rw [nI_add]
      have ev : -(cp c (ppl (revF p c hd) 0 i) (i + 1) % p) * hd % p = revF p c hd (i + 1) (ppl (revF p c hd) 0 i) := by
        unfold revF
        rw [if_neg (by omega)]
      rw [ev]
      exact r_rev_l hs hr hr1 h1 ho hn hc0 hhd k f (i + 1) _ (by omega) (by omega) (rS_ppl (hA.keep f2 (by omega) h24)) (hF.trans ((f2.mono (fun q h => by show 40 ≤ q; omega)).trans ((rF_set (r := 40) (by omega)).mono (fun q h => by show 40 ≤ q; omega))))
theorem r_rev (hs : qSh g) (hr : rR I p M) (hr1 : r < 40) (h1 : rS I r n c) (ho : okS p n c) (hn : 1 ≤ n) (k : ∀ I', (whyRev n c = -1 → rS I' r n (sRev p n c)) → rF (rUp r) I I' → Q (some (.int (iI (whyRev n c)))) g I' J) : qC (d + 4) 202 [.ref 105, .int (nI r)] g I J Q := by
  have h24 := ho.1
  have hp := hr.p2
  have b0 := ho.2.1 0
  have b1 := ho.2.1 1
  have kno : (n < 2 ∨ c 0 ≠ 0 ∨ c 1 = 0) → Q (some (.int (nI 2))) g I J := fun h => by
    have e9 : whyRev n c = 2 := if_pos h
    have := k I (fun h => by rw [e9] at h; omega) (rF.refl _ _)
    rw [e9] at this
    rwa [show iI 2 = nI 2 from (nI_iI 2).symm] at this
  refine w202 hs (r_c' hs (by omega) h1 ho (i := 0) (by omega) rfl ⟨_, rfl, fun h3 => r_len hs (by omega) h1.1 ⟨_, rfl, fun h4 => ?_, fun h4 => r_c' hs (by omega) h1 ho (i := 1) (by omega) rfl ⟨_, rfl, fun h5 => ?_, fun h5 => ?_⟩⟩, fun h3 => ?_⟩)
  · rw [nI_ltI (by omega) (by omega)] at h4
    exact kno (Or.inl h4)
  · rw [iI_z0, iI_eq (by omega) (by omega)] at h5
    exact kno (Or.inr (Or.inr h5))
  · rw [iI_z0, iI_eq (by omega) (by omega)] at h3 h5
    rw [nI_ltI (by omega) (by omega)] at h4
    have e9 : whyRev n c = -1 := if_neg (by omega)
    refine r_len hs (by omega) h1.1 ⟨_, rfl, r_c' hs (by omega) h1 ho (i := 1) (by omega) rfl ⟨_, rfl, r_inv hs hr b1 ⟨_, rfl, r_blank hs (to := 40) (by omega) h24 (fun I1 a1 f1 => ⟨rfl, r_set hs (r := 40) (by omega) (i := 1) (by omega) rfl ⟨rfl, ?_⟩⟩)⟩⟩⟩
    refine r_rev_l hs hr hr1 h1 ho (by omega) h3 (iv_red (by omega) (c 1)) (fun I' b1 b2 => ?_) (n - 2) 1 _ (by omega) (Nat.le_refl _) ?_ ((f1.mono (fun q h => by show 40 ≤ q; omega)).trans ((rF_set (r := 40) (by omega)).mono (fun q h => by show 40 ≤ q; omega)))
    · have := k I' (fun _ => b1) b2
      rw [e9] at this
      rwa [← iI_zm1] at this
    · have h9 := rS_set (k := 1) (v := iv p (c 1)) a1
      refine ⟨h9.1, fun i hi => ?_⟩
      rw [h9.2 i hi]
      congr 1
      dsimp only
      by_cases hi1 : i = 1
      · rw [if_pos hi1, hi1, ppl_s]
        unfold revF
        rw [if_pos rfl]
      · rw [if_neg hi1, ppl_n (by omega)]
        by_cases hi0 : i = 0
        · rw [hi0, ppl_z]
        · rw [ppl_hi 0 i (by omega)]
  · rw [iI_z0, iI_eq (by omega) (by omega)] at h3
    exact kno (Or.inr (Or.inl h3))
/-! roots -/
theorem r_raised_l (hs : qSh g) (hr : rR I p M) {v : Int} (hv : 0 ≤ v ∧ v < p) {kk : Nat} (hk : kk < 1000) (k : Q (some (.int (iI (v ^ kk % p)))) g I J) : ∀ f i, i + f = kk → qev (d + 1) 203 (9, [.ref 105, .int (iI v), .int (nI kk), .int (iI (v ^ i % p)), .int (nI i)], [], g, I, J) Q
  | 0, i, hi => by
    have e : i = kk := by omega
    subst e
    exact w203_9 hs ⟨fun _ => k, fun h3 => absurd (Int32.le_refl _) h3⟩
  | f + 1, i, hi => by
    have hp := hr.p2
    have b3 := Int.emod_nonneg (v ^ i) (show (p : Int) ≠ 0 by omega)
    have b4 := Int.emod_lt_of_pos (v ^ i) (show (0 : Int) < p by omega)
    have b5 : 0 ≤ v ^ i % p * v ∧ v ^ i % p * v ≤ 997 * 997 := ⟨Int.mul_nonneg b3 hv.1, Int.mul_le_mul (by omega) (by omega) hv.1 (by omega)⟩
    refine w203_9 hs ⟨fun h3 => ?_, fun _ => ⟨hr.nz, ?_⟩⟩
    · rw [nI_leI (by omega) (by omega)] at h3; omega
    · rw [iI_mul, hr.rem (by omega), em_l, ← Int.pow_succ, nI_add]
      exact r_raised_l hs hr hv hk k f (i + 1) (by omega)
theorem r_raised (hs : qSh g) (hr : rR I p M) {v : Int} (hv : 0 ≤ v ∧ v < p) {kk : Nat} (hk : kk < 1000) (k : Q (some (.int (iI (v ^ kk % p)))) g I J) : qC (d + 1) 203 [.ref 105, .int (iI v), .int (nI kk)] g I J Q := by
  refine w203 hs (r_by hs hr (z := 1) (by omega) (lN_iL 1) ⟨_, rfl, ?_⟩)
  have h9 := r_raised_l (d := d) hs hr hv hk k kk 0 (by omega)
  rw [Int.pow_zero] at h9
  exact h9
theorem r_raises_l (hs : qSh g) (hr : rR I p M) (ho : okS p n c) {ex L : Nat} (hex : ex < 1000) (hL : L ≤ n) (k : ∀ I', rS I' 41 L (zx p L (pw c ex)) → rF (fun q => q = 41 ∨ q = 43 ∨ q = 44) I I' → Q none g I' J) : ∀ f i I', i + f = ex → 1 ≤ i → rS I' 41 L (zx p L (pw c i)) → rS I' 43 n c → rF (fun q => q = 41 ∨ q = 43 ∨ q = 44) I I' → qev (d + 3) 194 (24, [.ref 105, .int (nI 40), .int (nI ex), .int (nI L), .int (nI 41), .int (nI i)], [], g, I', J) Q
  | 0, i, I', hi, h0, hA, hW, hF => by
    have e : i = ex := by omega
    subst e
    exact w194_24 hs ⟨fun _ => k I' hA hF, fun h3 => absurd (Int32.le_refl _) h3⟩
  | f + 1, i, I', hi, h0, hA, hW, hF => by
    have hp := hr.p2
    have h24 := ho.1
    refine w194_24 hs ⟨fun h3 => ?_, fun _ => r_cuts hs (hr.keep hF) (r := 41) (by omega) (s := 43) (by omega) (to := 44) (by omega) (by omega) hA hW (zx_ok (by omega) (by omega)) ho (L := L) (by omega) (fun I2 a1 f2 => ⟨rfl, ?_⟩)⟩
    · rw [nI_leI (by omega) (by omega)] at h3; omega
    · rw [zx_cv (zx_E (Nat.le_refl _)), ← pw_s] at a1
      refine r_copy hs (s := 44) (by omega) (to := 41) (by omega) (by omega) a1 (by omega) (fun I3 b1 f3 => ⟨rfl, ?_⟩)
      rw [nI_add]
      exact r_raises_l hs hr ho hex hL k f (i + 1) I3 (by omega) (by omega) b1 ((hW.keep f2 (by omega) h24).keep f3 (by omega) h24) (hF.trans ((f2.mono (fun q h => Or.inr (Or.inr h))).trans (f3.mono (fun q h => Or.inl h))))
theorem r_raises (hs : qSh g) (hr : rR I p M) (h1 : rS I 40 n c) (ho : okS p n c) {ex L : Nat} (hex : 1 ≤ ex ∧ ex < 1000) (hL : L ≤ n) (k : ∀ I', rS I' 41 L (zx p L (pw c ex)) → rF (fun q => q = 41 ∨ q = 43 ∨ q = 44) I I' → Q none g I' J) : qC (d + 3) 194 [.ref 105, .int (nI 40), .int (nI ex), .int (nI L), .int (nI 41)] g I J Q := by
  have h24 := ho.1
  refine w194 hs (r_copy hs (s := 40) (by omega) (to := 43) (by omega) (by omega) h1 h24 (fun I1 a1 f1 => ⟨rfl, r_copy hs (s := 40) (by omega) (to := 41) (by omega) (by omega) (h1.keep f1 (by omega) h24) h24 (fun I2 b1 f2 => ⟨rfl, r_setLen hs (r := 41) (by omega) ⟨rfl, ?_⟩⟩)⟩))
  refine r_raises_l hs hr ho hex.2 hL k (ex - 1) 1 _ (by omega) (Nat.le_refl _) ?_ ((a1.keep f2 (by omega) h24).keep (rF_len (r := 41)) (by omega) h24) ((f1.mono (fun q h => Or.inr (Or.inl h))).trans ((f2.mono (fun q h => Or.inl h)).trans ((rF_len (r := 41)).mono (fun q h => Or.inl h))))
  rw [pw_1]
  exact b1.trunc ho hL
theorem r_root_l (hs : qSh g) (hr : rR I p M) (hr1 : r < 40) (h1 : rS I r n c) (ho : okS p n c) {ex : Nat} (hex : 1 ≤ ex ∧ ex < 1000) {step h : Int} (hst : 0 ≤ step ∧ step < p) (hh : 0 ≤ h ∧ h < p) (k : ∀ I', rS I' r n (ppl (rootF p c (ex - 1) step) h (n - 1)) → rF (rUp r) I I' → Q (some (.int (-1))) g I' J) : ∀ (f i : Nat) (I' : qI), i + 1 + f = n → rS I' 40 n (ppl (rootF p c (ex - 1) step) h i) → rF (rUp 40) I I' → qev (d + 4) 204 (107, [.ref 105, .int (nI r), .int (nI ex), .int (iI h), .int (iI step), .int (nI (i + 1))], [], g, I', J) Q
  | 0, i, I', hi, hA, hF => by
    have h24 := ho.1
    have e : n - 1 = i := by omega
    refine w204_107 hs (r_len hs (by omega) (h1.keep hF (by show ¬ 40 ≤ r; omega) h24).1 ⟨_, rfl, fun _ => r_copy hs (s := 40) (by omega) (by omega) (by omega) hA h24 (fun I1 a1 f1 => ⟨rfl, k I1 ?_ ((hF.mono (fun q h => by show r ≤ q; have : 40 ≤ q := h; omega)).trans (f1.mono (fun q h => by show r ≤ q; omega)))⟩), fun h3 => ?_⟩)
    · rw [e]; exact a1
    · rw [nI_leI (by omega) (by omega)] at h3; omega
  | f + 1, i, I', hi, hA, hF => by
    have h24 := ho.1
    have hp := hr.p2
    have h1' := h1.keep hF (by show ¬ 40 ≤ r; omega) h24
    have oY := ppl_ok (p := p) (n := n) (F := rootF p c (ex - 1) step) hh (fun k y => ⟨Int.emod_nonneg _ (by omega), Int.emod_lt_of_pos _ (by omega)⟩) h24 (k := i) (by omega)
    refine w204_107 hs (r_len hs (by omega) h1'.1 ⟨_, rfl, fun h3 => ?_, fun _ => ?_⟩)
    · rw [nI_leI (by omega) (by omega)] at h3; omega
    · rw [nI_add]
      refine r_raises hs (hr.keep hF) hA oY hex (L := i + 1 + 1) (by omega) (fun I2 a1 f2 => ⟨rfl, ?_⟩)
      have hr2 := (hr.keep hF).keep f2
      have b1 := ho.2.1 (i + 1)
      generalize hZ : pw (ppl (rootF p c (ex - 1) step) h i) ex (i + 1) = Z at *
      have b2 : 0 ≤ Z % p ∧ Z % p < p := ⟨Int.emod_nonneg _ (by omega), Int.emod_lt_of_pos _ (by omega)⟩
      have b5 : (c (i + 1) - Z % p) * step ≤ 997 * 997 ∧ -(997 * 997) ≤ (c (i + 1) - Z % p) * step := by
        refine ⟨?_, ?_⟩
        · by_cases hs0 : 0 ≤ c (i + 1) - Z % p
          · exact Int.mul_le_mul (by omega) (by omega) hst.1 (by omega)
          · have := Int.mul_nonneg (show 0 ≤ -(c (i + 1) - Z % p) by omega) hst.1
            rw [Int.neg_mul] at this
            omega
        · by_cases hs0 : 0 ≤ c (i + 1) - Z % p
          · have := Int.mul_nonneg hs0 hst.1
            omega
          · have : -(c (i + 1) - Z % p) * step ≤ 997 * 997 := Int.mul_le_mul (by omega) (by omega) hst.1 (by omega)
            rw [Int.neg_mul] at this
            omega
      refine r_c' hs (by omega) (h1'.keep f2 (by omega) h24) ho (i := i + 1) (by omega) rfl ⟨_, rfl, r_c' hs (r := 41) (by omega) a1 (zx_ok (by omega) (by omega)) (i := i + 1) (by omega) rfl ⟨_, rfl, ?_⟩⟩
      rw [zx_lt (by omega), hZ]
      refine r_by hs hr2 (z := (c (i + 1) - Z % p) * step) (by omega) (by rw [iI_sub, iI_l (by omega), iI_l (by omega), iL_mul]) ⟨_, rfl, r_set hs (r := 40) (by omega) (i := i + 1) (by omega) rfl ⟨rfl, ?_⟩⟩
      have ev : (c (i + 1) - Z % p) * step % p = rootF p c (ex - 1) step (i + 1) (ppl (rootF p c (ex - 1) step) h i) := by
        have e5 : rootF p c (ex - 1) step (i + 1) (ppl (rootF p c (ex - 1) step) h i) = (c (i + 1) - Z) * step % p := by
          rw [← hZ]
          show ((c (i + 1) - pw _ (ex - 1 + 1) (i + 1)) * step) % p = _
          rw [show ex - 1 + 1 = ex by omega]
        rw [e5, ← em_l, Int.sub_emod, Int.emod_emod, ← Int.sub_emod, em_l]
      rw [ev]
      exact r_root_l hs hr hr1 h1 ho hex hst hh k f (i + 1) _ (by omega) (rS_ppl (hA.keep f2 (by omega) h24)) (hF.trans ((f2.mono (fun q h => by show 40 ≤ q; omega)).trans ((rF_set (r := 40) (by omega)).mono (fun q h => by show 40 ≤ q; omega))))
theorem r_root_s (hs : qSh g) (hr : rR I p M) (hr1 : r < 40) (h1 : rS I r n c) (ho : okS p n c) {kk : Nat} (hk : kk < 1000) (k : qev (d + 2) 204 (53, [.ref 105, .int (nI r), .int (nI kk), .int (nI (rt0 p kk (c 0))), qpad, qpad], [], g, I, J) Q) : ∀ f s, s + f = p → 1 ≤ s → rt p kk (c 0) f s = rt0 p kk (c 0) → qev (d + 2) 204 (24, [.ref 105, .int (nI r), .int (nI kk), .int (nI s), qpad, qpad], [], g, I, J) Q
  | 0, s, hf, h0, he => by
    have hp := hr.p2
    have e : rt0 p kk (c 0) = s := he.symm
    refine w204_24 hs ⟨fun h3 => ?_, fun h3 => ?_⟩
    · rw [e] at k; exact k
    · rw [hr.1, ← nI_iI, nI_leI (by omega) (by omega)] at h3; omega
  | f + 1, s, hf, h0, he => by
    have hp := hr.p2
    have b0 := ho.2.1 0
    have md : 0 ≤ (s : Int) ^ kk % p ∧ (s : Int) ^ kk % p < p := ⟨Int.emod_nonneg _ (by omega), Int.emod_lt_of_pos _ (by omega)⟩
    refine w204_24 hs ⟨fun h3 => ?_, fun h3 => ?_⟩
    · rw [hr.1, ← nI_iI, nI_leI (by omega) (by omega)] at h3; omega
    · have h9 := r_raised (d := d) (Q := fun v _ _ _ => ∃ r1, v = some (.int r1) ∧ qC (d + 1) 182 [.ref 105, .int (nI r), .int (nI 0)] g I J (fun v _ _ _ => ∃ r2, v = some (.int r2) ∧ ((r1 = r2 → qev (d + 2) 204 (53, [.ref 105, .int (nI r), .int (nI kk), .int (nI s), qpad, qpad], [], g, I, J) Q) ∧ (¬ r1 = r2 → qev (d + 2) 204 (24, [.ref 105, .int (nI r), .int (nI kk), .int (nI s + nI 1), qpad, qpad], [], g, I, J) Q)))) (I := I) (J := J) hs hr (v := (s : Int)) (by omega) hk ?_
      · rw [← nI_iI] at h9; exact h9
      · refine ⟨_, rfl, r_c' hs (by omega) h1 ho (i := 0) (by omega) rfl ⟨_, rfl, fun h5 => ?_, fun h5 => ?_⟩⟩
        · rw [iI_eq (by omega) (by omega)] at h5
          have e : rt0 p kk (c 0) = s := by rw [← he, rt, if_pos h5]
          rw [e] at k
          exact k
        · rw [iI_eq (by omega) (by omega)] at h5
          rw [nI_add]
          rw [rt, if_neg h5] at he
          exact r_root_s hs hr hr1 h1 ho hk k f (s + 1) (by omega) (by omega) he
theorem r_root (hs : qSh g) (hr : rR I p M) (hr1 : r < 40) (h1 : rS I r n c) (ho : okS p n c) (hn : 1 ≤ n) {kk : Nat} (hk : 2 ≤ kk ∧ kk < 100) (k : ∀ I', (whyRoot p kk c = -1 → rS I' r n (sRoot p n kk c)) → rF (rUp r) I I' → Q (some (.int (iI (whyRoot p kk c)))) g I' J) : qC (d + 4) 204 [.ref 105, .int (nI r), .int (nI kk)] g I J Q := by
  have hp := hr.p2
  have b0 := ho.2.1 0
  have h24 := ho.1
  have kno : ∀ (v : Nat), whyRoot p kk c = (v : Int) → Q (some (.int (nI v))) g I J := fun v hv => by
    have := k I (fun h => by rw [hv] at h; omega) (rF.refl _ _)
    rw [hv] at this
    rwa [← nI_iI] at this
  have mk : 0 ≤ (kk : Int) % p ∧ (kk : Int) % p < p := ⟨Int.emod_nonneg _ (by omega), Int.emod_lt_of_pos _ (by omega)⟩
  refine w204 hs (r_c' hs (by omega) h1 ho (i := 0) (by omega) rfl ⟨_, rfl, fun h3 => ?_, fun h3 => ⟨hr.nz, fun h4 => ?_, fun h4 => ?_⟩⟩)
  · rw [iI_z0, iI_eq (by omega) (by omega)] at h3
    exact kno 2 (if_pos h3)
  · rw [iI_z0, iI_eq (by omega) (by omega)] at h3
    rw [nI_iI, hr.rem (by omega), iI_z0, iI_eq (by omega) (by omega)] at h4
    exact kno 3 (by unfold whyRoot; rw [if_neg h3, if_pos h4]; rfl)
  · rw [iI_z0, iI_eq (by omega) (by omega)] at h3
    rw [nI_iI, hr.rem (by omega), iI_z0, iI_eq (by omega) (by omega)] at h4
    refine r_root_s (d := d + 2) (kk := kk) hs hr hr1 h1 ho (by omega) ?_ (p - 1) 1 (by omega) (Nat.le_refl _) rfl
    have hsp := rt_spec p kk (c 0) (p - 1) 1
    have hb : 1 ≤ rt0 p kk (c 0) ∧ rt0 p kk (c 0) ≤ p := by unfold rt0; omega
    refine w204_53 hs ⟨fun h5 => ?_, fun h5 => ?_⟩
    · rw [hr.1, ← nI_iI, nI_eq (by omega) (by omega)] at h5
      exact kno 4 (by unfold whyRoot; rw [if_neg h3, if_neg h4, if_pos h5]; rfl)
    · rw [hr.1, ← nI_iI, nI_eq (by omega) (by omega)] at h5
      have e9 : whyRoot p kk c = -1 := by unfold whyRoot; rw [if_neg h3, if_neg h4, if_neg h5]
      have hS : sRoot p n kk c = ppl (rootF p c (kk - 1) (stp p kk (rt0 p kk (c 0)))) ((rt0 p kk (c 0) : Nat) : Int) (n - 1) := rfl
      generalize rt0 p kk (c 0) = h at *
      rw [pk_sub (by omega), nI_iI h]
      refine r_raised hs hr (v := (h : Int)) (by omega) (by omega) ⟨_, rfl, ?_⟩
      have b1 : 0 ≤ (h : Int) ^ (kk - 1) % p ∧ (h : Int) ^ (kk - 1) % p < p := ⟨Int.emod_nonneg _ (by omega), Int.emod_lt_of_pos _ (by omega)⟩
      have b4 : 0 ≤ (kk : Int) * ((h : Int) ^ (kk - 1) % p) ∧ (kk : Int) * ((h : Int) ^ (kk - 1) % p) ≤ 100 * 997 := ⟨Int.mul_nonneg (by omega) b1.1, Int.mul_le_mul (by omega) (by omega) b1.1 (by omega)⟩
      refine r_by hs hr (z := (kk : Int) * ((h : Int) ^ (kk - 1) % p)) (by omega) (by rw [nI_iI, iI_l (by omega), iI_l (by omega), iL_mul]) ⟨_, rfl, ?_⟩
      rw [em_r]
      refine r_inv hs hr ⟨Int.emod_nonneg _ (by omega), Int.emod_lt_of_pos _ (by omega)⟩ ⟨_, rfl, r_len hs (by omega) h1.1 ⟨_, rfl, r_blank hs (to := 40) (by omega) h24 (fun I1 a1 f1 => ⟨rfl, r_set hs (r := 40) (by omega) (i := 0) (by omega) rfl ⟨rfl, ?_⟩⟩)⟩⟩
      refine r_root_l (ex := kk) (step := stp p kk h) (h := (h : Int)) hs hr hr1 h1 ho (by omega) (iv_red (by omega) _) (by omega) (fun I' c1 c2 => ?_) (n - 1) 0 _ (by omega) (rS_set a1) ((f1.mono (fun q h => by show 40 ≤ q; omega)).trans ((rF_set (r := 40) (by omega)).mono (fun q h => by show 40 ≤ q; omega)))
      have := k I' (fun _ => by rw [hS]; exact c1) c2
      rw [e9] at this
      rwa [← iI_zm1] at this
end RO2
