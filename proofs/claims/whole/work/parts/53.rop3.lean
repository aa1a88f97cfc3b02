/-! compositions and joins of the reference; what one STEP's operation comes to -/
abbrev Sr : Type := Nat × (Nat → Int)
def tr (n : Nat) (c : Nat → Int) : Nat → Int := fun i => if i < n then c i else 0
def okR (p M : Nat) (f : Sr) : Prop := 1 ≤ f.1 ∧ f.1 ≤ M ∧ okS p f.1 f.2
/-- of one -/
def x1o (p M w a : Nat) (f : Sr) : Int × Sr := match w with
  | 7 => (-1, pL M (od f.1 f.2) f.1 a, pC p M (od f.1 f.2) f.1 f.2 a)
  | 8 => if f.1 < 2 then (5, f) else (-1, f.1 - 1, sDer p f.1 f.2)
  | 9 => (whyInt p M f.1 f.2, iLn p M f.1, sInt p (iLn p M f.1) f.2)
  | 10 => (whyLog p M f.1 f.2, gLn p M f.1 f.2, sLog p M f.1 f.2)
  | 11 => if f.2 0 = 0 then (-1, min f.1 p, sExp p (min f.1 p) f.2) else (2, f)
  | 12 => (whyRev f.1 f.2, f.1, sRev p f.1 f.2)
  | 13 => (whyRoot p a f.2, f.1, sRoot p f.1 a f.2)
  | _ => (-1, min f.1 a, tr (min f.1 a) f.2)
/-- of two -/
def x2o (p M w : Nat) (f h : Sr) : Int × Sr := match w with
  | 3 => (-1, min f.1 h.1, zx p (min f.1 h.1) (fun i => f.2 i + h.2 i))
  | 4 => (-1, min f.1 h.1, zx p (min f.1 h.1) (fun i => f.2 i - h.2 i))
  | 5 => (-1, mln M f.1 f.2 h.1 h.2, zx p (mln M f.1 f.2 h.1 h.2) (cv f.2 h.2))
  | 6 => (whyDiv f.1 h.1 f.2 h.2, qL p M f.1 h.1 f.2 h.2, sDiv p M f.1 h.1 f.2 h.2)
  | 15 => if h.2 0 = 0 then (-1, cLen M f.1 h.1 f.2 h.2, sCmp p M f.1 h.1 f.2 h.2) else (2, f)
  | _ => (-1, min f.1 h.1, zx p (min f.1 h.1) (fun i => f.2 i * h.2 i))
section RO3
variable {d : Nat} {g : qG} {I : qI} {J : qJ} {Q : qQ} {p M n m r s to : Nat} {c e : Nat → Int}
theorem r_cmp_i (hs : qSh g) (hr : rR I p M) (hr1 : r < 39) (h1 : rS I r n c) (ho : okS p n c) {R P : Nat → Int} {l j : Nat} (hj : j < 100) (hP : rS I 40 l P) (oP : okS p l P) (oR : okS p M R) {i2 i3 : Int32}
    (k : ∀ I', rS I' 42 M (zx p M (fun i => R i + c j * P i)) → rF (fun q => q = 42) I I' → qev (d + 1) 205 (58, [.ref 105, .int (nI r), .int i2, .int i3, .int (nI (j + 1)), .int (nI M)], [], g, I', J) Q) : ∀ f i I', i + f = M → rS I' 42 M (fun t => if t < i then (R t + c j * P t) % p else R t) → rF (fun q => q = 42) I I' → qev (d + 1) 205 (117, [.ref 105, .int (nI r), .int i2, .int i3, .int (nI j), .int (nI i)], [], g, I', J) Q
  | 0, i, I', hi, hA, hF => by
    have hr2 := hr.keep hF
    have e : i = M := by omega
    subst e
    refine w205_117 hs ⟨fun _ => ?_, fun h3 => ?_⟩
    · rw [nI_add]
      refine k I' ⟨hA.1, fun t ht => ?_⟩ hF
      rw [hA.2 t ht, zx_lt ht]
      dsimp only
      rw [if_pos ht]
    · rw [hr2.2.1] at h3; exact absurd (Int32.le_refl _) h3
  | f + 1, i, I', hi, hA, hF => by
    have hp := hr.p2
    have hM := hr.2.2.2
    have h24 := ho.1
    have hr2 := hr.keep hF
    have b1 := ho.2.1 j
    have b2 := oP.2.1 i
    have b3 := oR.2.1 i
    have b4 : 0 ≤ c j * P i ∧ c j * P i ≤ 997 * 997 := ⟨Int.mul_nonneg b1.1 b2.1, Int.mul_le_mul (by omega) (by omega) b2.1 (by omega)⟩
    refine w205_117 hs ⟨fun h3 => ?_, fun _ => r_c hs (r := 42) (by omega) hA hM.2 (fun t ht => by rw [if_neg (by omega)]; exact oR.2.2 t ht) (i := i) (by omega) rfl ⟨_, rfl, r_c' hs (by omega) (h1.keep hF (by omega) h24) ho (i := j) (by omega) rfl ⟨_, rfl, r_c' hs (r := 40) (by omega) (hP.keep hF (by omega) oP.1) oP (i := i) (by omega) rfl ⟨_, rfl, ?_⟩⟩⟩⟩
    · rw [hr2.2.1, nI_leI (by omega) (by omega)] at h3; omega
    · rw [if_neg (by omega)]
      refine r_by hs hr2 (z := R i + c j * P i) (by omega) (by rw [iI_l (by omega), iI_l (by omega), iI_l (by omega), iL_mul, iL_add]) ⟨_, rfl, r_set hs (r := 42) (by omega) (i := i) (by omega) rfl ⟨rfl, ?_⟩⟩
      rw [nI_add]
      have h9 := rS_set (k := i) (v := (R i + c j * P i) % p) hA
      refine r_cmp_i hs hr hr1 h1 ho hj hP oP oR k f (i + 1) _ (by omega) ?_ (hF.trans (rF_set (by omega)))
      have ef : (fun t => if t = i then (R i + c j * P i) % (p : Int) else if t < i then (R t + c j * P t) % p else R t) = (fun t => if t < i + 1 then (R t + c j * P t) % p else R t) := by
        funext t
        by_cases h1 : t = i
        · rw [if_pos h1, if_pos (by omega), h1]
        · rw [if_neg h1]
          by_cases h2 : t < i
          · rw [if_pos h2, if_pos (by omega)]
          · rw [if_neg h2, if_neg (by omega)]
      rw [← ef]
      exact h9
theorem r_cmp_o (hs : qSh g) (hr : rR I p M) (hr1 : r < 39) (h1 : rS I r n c) (h2 : rS I (r + 1) m e) (o1 : okS p n c) (o2 : okS p m e) (hm : 1 ≤ m ∧ m ≤ M) {L0 : Nat} (hL0 : L0 ≤ M) (k : ∀ I', rS I' r (cln M (od m e) m L0 c n) (zx p (cln M (od m e) m L0 c n) (csm p M m c e n)) → rF (rUp r) I I' → Q (some (.int (-1))) g I' J) : ∀ (f j : Nat) (I' : qI) (w5 : Value), j + f = n → rS I' 40 (pL M (od m e) m (j - 1)) (pC p M (od m e) m e (j - 1)) → rS I' 42 M (zx p M (csm p M m c e j)) → rF (fun q => q = 40 ∨ q = 41 ∨ q = 42) I I' →
      qev (d + 3) 205 (58, [.ref 105, .int (nI r), .int (nI (r + 1)), .int (nI (cln M (od m e) m L0 c j)), .int (nI j), w5], [], g, I', J) Q
  | 0, j, I', w5, hj, hP, hR, hF => by
    have h24 := o1.1
    have hM := hr.2.2.2
    have e9 : j = n := by omega
    subst e9
    have hl := cln_le (M := M) (v := od m e) (m := m) (L0 := L0) (c := c) j
    refine w205_58 hs (r_len hs (by omega) (h1.keep hF (by omega) h24).1 ⟨_, rfl, fun _ => r_setLen hs (r := 42) (by omega) ⟨rfl, ?_⟩, fun h3 => absurd (Int32.le_refl _) h3⟩)
    have hz := hR.trunc (zx_ok (p := p) (by have := hr.p2; omega) hM.2) (L := cln M (od m e) m L0 c j) (by omega)
    have ez : zx p (cln M (od m e) m L0 c j) (zx p M (csm p M m c e j)) = zx p (cln M (od m e) m L0 c j) (csm p M m c e j) := by
      funext i
      by_cases hi : i < cln M (od m e) m L0 c j
      · rw [zx_lt hi, zx_lt hi, zx_lt (by omega), Int.emod_emod]
      · rw [zx_ge (by omega), zx_ge (by omega)]
    rw [ez] at hz
    refine r_copy hs (s := 42) (by omega) (by omega) (by omega) hz (by omega) (fun I2 a1 f2 => ⟨rfl, k I2 a1 ?_⟩)
    exact (hF.mono (fun q h => by show r ≤ q; omega)).trans (((rF_len (r := 42)).mono (fun q h => by show r ≤ q; omega)).trans (f2.mono (fun q h => by show r ≤ q; omega)))
  | f + 1, j, I', w5, hj, hP, hR, hF => by
    have h24 := o1.1
    have hM := hr.2.2.2
    have hp := hr.p2
    have hl := cln_le (M := M) (v := od m e) (m := m) (L0 := L0) (c := c) j
    have b0 := o1.2.1 j
    have h1' := h1.keep hF (by omega) h24
    have hnext : ∀ I2, rS I2 40 (pL M (od m e) m j) (pC p M (od m e) m e j) → rF (fun q => q = 40 ∨ q = 41 ∨ q = 42) I I2 → rS I2 42 M (zx p M (csm p M m c e j)) →
        qC (d + 2) 182 [.ref 105, .int (nI r), .int (nI j)] g I2 J (fun v _ _ _ => ∃ r2, v = some (.int r2) ∧ ((r2 = 0 → qev (d + 3) 205 (58, [.ref 105, .int (nI r), .int (nI (r + 1)), .int (nI (cln M (od m e) m L0 c j)), .int (nI j + nI 1), w5], [], g, I2, J) Q) ∧ (¬ r2 = 0 → qC (d + 2) 180 [.ref 105, .int (nI 40)] g I2 J (fun v _ _ _ => ∃ r3, v = some (.int r3) ∧ qC (d + 2) 186 [.int (nI (cln M (od m e) m L0 c j)), .int r3] g I2 J (fun v _ _ _ => ∃ r4, v = some (.int r4) ∧ qev (d + 3) 205 (117, [.ref 105, .int (nI r), .int (nI (r + 1)), .int r4, .int (nI j), .int (nI 0)], [], g, I2, J) Q))))) := by
      intro I2 hP2 hF2 hR2
      have hpl := pL_le M (od m e) m j
      refine r_c' hs (by omega) (h1.keep hF2 (by omega) h24) o1 (i := j) (by omega) rfl ⟨_, rfl, fun h3 => ?_, fun h3 => ?_⟩
      · rw [iI_z0, iI_eq (by omega) (by omega)] at h3
        rw [nI_add]
        have e1 : cln M (od m e) m L0 c (j + 1) = cln M (od m e) m L0 c j := by rw [cln, if_pos h3]
        have e2 : csm p M m c e (j + 1) = csm p M m c e j := by
          funext i
          unfold csm
          rw [sm_s, h3, Int.zero_mul, Int.add_zero]
        have h9 := r_cmp_o hs hr hr1 h1 h2 o1 o2 hm hL0 k f (j + 1) I2 w5 (by omega) (by rw [Nat.add_sub_cancel]; exact hP2) (by rw [e2]; exact hR2) hF2
        rw [e1] at h9; exact h9
      · rw [iI_z0, iI_eq (by omega) (by omega)] at h3
        refine r_len hs (r := 40) (by omega) hP2.1 ⟨_, rfl, r_least (by omega) (by omega) ⟨_, rfl, ?_⟩⟩
        have e1 : cln M (od m e) m L0 c (j + 1) = min (cln M (od m e) m L0 c j) (pL M (od m e) m j) := by rw [cln, if_neg h3]
        rw [← e1]
        refine r_cmp_i (d := d + 2) (n := n) (c := c) (R := zx p M (csm p M m c e j)) (P := pC p M (od m e) m e j) hs (hr.keep hF2) hr1 (h1.keep hF2 (by omega) h24) o1 (by omega) hP2 (pC_ok (by omega) hM.2 _) (zx_ok (by omega) hM.2) (fun I3 a1 f3 => ?_) M 0 I2 (by omega) ⟨hR2.1, fun t ht => by dsimp only; rw [if_neg (by omega)]; exact hR2.2 t ht⟩ (rF.refl _ _)
        refine r_cmp_o hs hr hr1 h1 h2 o1 o2 hm hL0 k f (j + 1) I3 _ (by omega) ?_ ?_ (hF2.trans (f3.mono (fun q h => Or.inr (Or.inr h))))
        · rw [Nat.add_sub_cancel]
          exact hP2.keep f3 (by omega) (by omega)
        · have e2 : zx p M (fun i => zx p M (csm p M m c e j) i + c j * pC p M (od m e) m e j i) = zx p M (csm p M m c e (j + 1)) := by
            funext i
            by_cases hi : i < M
            · rw [zx_lt hi, zx_lt hi, zx_lt hi, Int.emod_add_emod]
              rfl
            · rw [zx_ge (by omega), zx_ge (by omega)]
          rw [← e2]; exact a1
    refine w205_58 hs (r_len hs (by omega) h1'.1 ⟨_, rfl, fun h3 => ?_, fun _ => ⟨fun h4 => ?_, fun h4 => ?_⟩⟩)
    · rw [nI_leI (by omega) (by omega)] at h3; omega
    · rw [← nI_0, nI_leI (by omega) (by omega)] at h4
      have e0 : j - 1 = j := by omega
      rw [e0] at hP
      exact hnext I' hP hF hR
    · rw [← nI_0, nI_leI (by omega) (by omega)] at h4
      refine r_mul hs (hr.keep hF) (r := 40) (by omega) (by omega) (to := 41) (by omega) (by omega) hP (h2.keep hF (by omega) o2.1) (pC_ok (by omega) hM.2 _) o2 (fun I2 a1 f2 => ⟨rfl, ?_⟩)
      obtain ⟨m1, m2⟩ := pC_mul hr.2.2.1 (show 1 ≤ M by omega) o2 hm.1 (j - 1) 1 (Nat.le_refl _)
      obtain ⟨q1, q2⟩ := pC_1 o2 hm.2 (od m e)
      rw [q1, q2, show j - 1 + 1 = j by omega] at m1
      rw [q2, show j - 1 + 1 = j by omega] at m2
      rw [m1, m2] at a1
      have hpl := pL_le M (od m e) m j
      refine r_copy hs (s := 41) (by omega) (to := 40) (by omega) (by omega) a1 (by omega) (fun I3 b1 f3 => ⟨rfl, ?_⟩)
      exact hnext I3 b1 (hF.trans ((f2.mono (fun q h => Or.inr (Or.inl h))).trans (f3.mono (fun q h => Or.inl h)))) ((hR.keep f2 (by omega) hM.2).keep f3 (by omega) hM.2)
theorem r_cmp (hs : qSh g) (hr : rR I p M) (hr1 : r < 39) (h1 : rS I r n c) (h2 : rS I (r + 1) m e) (o1 : okS p n c) (o2 : okS p m e) (hn : 1 ≤ n) (hm : 1 ≤ m ∧ m ≤ M) (k0 : e 0 ≠ 0 → Q (some (.int (nI 2))) g I J) (k : e 0 = 0 → ∀ I', rS I' r (cLen M n m c e) (sCmp p M n m c e) → rF (rUp r) I I' → Q (some (.int (-1))) g I' J) : qC (d + 3) 205 [.ref 105, .int (nI r)] g I J Q := by
  have hp := hr.p2
  have hM := hr.2.2.2
  have h24 := o1.1
  have b0 := o2.2.1 0
  have v2 := od_le m e
  refine w205 hs ?_
  rw [nI_add]
  refine r_c' hs (by omega) h2 o2 (i := 0) (by omega) rfl ⟨_, rfl, fun h3 => ?_, fun h3 => ?_⟩
  · rw [iI_z0, iI_eq (by omega) (by omega)] at h3
    have hnv : n * od m e ≤ 24 * 24 := Nat.mul_le_mul h24 (by omega)
    refine r_len hs (by omega) h1.1 ⟨_, rfl, r_ord hs (by omega) h2 o2 hp.2 ⟨_, rfl, ?_⟩⟩
    rw [hr.2.1, pk_mul]
    refine r_least (by omega) (by omega) ⟨_, rfl, r_by hs hr (z := 1) (by omega) (lN_iL 1) ⟨_, rfl, r_num hs hr (to := 40) (by omega) rfl (fun I1 a1 f1 => ⟨rfl, ?_⟩)⟩⟩
    rw [(hr.keep f1).2.1]
    refine r_blank hs (to := 42) (by omega) hM.2 (fun I2 b1 f2 => ⟨rfl, ?_⟩)
    have e0 := pC_0 (p := p) (M := M) (n := m) (c := e) hp.1 (by omega) (od m e)
    refine r_cmp_o (L0 := min M (n * od m e)) hs hr hr1 h1 h2 o1 o2 hm (by omega) (k h3) n 0 I2 qpad (by omega) ?_ ?_ ((f1.mono (fun q h => Or.inl h)).trans (f2.mono (fun q h => Or.inr (Or.inr h))))
    · rw [Nat.zero_sub, e0.1, ← sNum_eq hp.1 (by omega)]
      exact a1.keep f2 (by omega) hM.2
    · have e5 : zx p M (csm p M m c e 0) = fun _ => 0 := by
        funext i
        unfold zx
        split
        · exact Int.zero_emod _
        · rfl
      rw [e5]; exact b1
  · rw [iI_z0, iI_eq (by omega) (by omega)] at h3
    exact k0 h3
/-! sums, differences, place by place -/
def jf (w : Nat) (a b : Int) : Int := if w = 3 then a + b else if w = 4 then a - b else a * b
theorem r_join_l (hs : qSh g) (hr : rR I p M) (hr1 : r < 39) (h2 : rS I (r + 1) m e) (o1 : okS p n c) (o2 : okS p m e) {w L : Nat} (hw : w < 100) (hL : L ≤ n) (k : ∀ I', rS I' r L (zx p L (fun i => jf w (c i) (e i))) → rF (rUp r) I I' → Q (some (.int (-1))) g I' J) : ∀ (f i : Nat) (I' : qI) (w5 w6 : Value), i + f = L → rS I' r n (fun t => if t < i then jf w (c t) (e t) % p else c t) → rF (fun q => q = r) I I' → qev (d + 1) 206 (19, [.ref 105, .int (nI r), .int (nI w), .int (nI L), .int (nI i), w5, w6], [], g, I', J) Q
  | 0, i, I', w5, w6, hi, hA, hF => by
    have e9 : i = L := by omega
    subst e9
    refine w206_19 hs ⟨fun _ => r_setLen hs (by omega) ⟨rfl, k _ ⟨zu_s, fun t ht => ?_⟩ ((hF.trans (rF_len (r := r))).mono (fun q h => by show r ≤ q; omega))⟩, fun h3 => absurd (Int32.le_refl _) h3⟩
    rw [zu_k (by omega), hA.2 t (by omega), zx_lt ht]
    dsimp only
    rw [if_pos ht]
  | f + 1, i, I', w5, w6, hi, hA, hF => by
    have hp := hr.p2
    have h24 := o1.1
    have hr2 := hr.keep hF
    have b1 := o1.2.1 i
    have b2 := o2.2.1 i
    have b4 : 0 ≤ c i * e i ∧ c i * e i ≤ 997 * 997 := ⟨Int.mul_nonneg b1.1 b2.1, Int.mul_le_mul (by omega) (by omega) b2.1 (by omega)⟩
    have hset : ∀ v, v = jf w (c i) (e i) % p → ∀ w5' w6', qC d 183 [.ref 105, .int (nI r), .int (nI i), .int (iI v)] g I' J (fun v _ I4 _ => v = none ∧ qev (d + 1) 206 (19, [.ref 105, .int (nI r), .int (nI w), .int (nI L), .int (nI i + nI 1), w5', w6'], [], g, I4, J) Q) := by
      intro v hv w5' w6'
      subst hv
      refine r_set hs (by omega) (i := i) (by omega) rfl ⟨rfl, ?_⟩
      rw [nI_add]
      have h9 := rS_set (k := i) (v := jf w (c i) (e i) % p) hA
      refine r_join_l hs hr hr1 h2 o1 o2 hw hL k f (i + 1) _ _ _ (by omega) ?_ (hF.trans (rF_set (by omega)))
      have ef : (fun t => if t = i then jf w (c i) (e i) % (p : Int) else if t < i then jf w (c t) (e t) % p else c t) = (fun t => if t < i + 1 then jf w (c t) (e t) % p else c t) := by
        funext t
        by_cases h1 : t = i
        · rw [if_pos h1, if_pos (by omega), h1]
        · rw [if_neg h1]
          by_cases h2 : t < i
          · rw [if_pos h2, if_pos (by omega)]
          · rw [if_neg h2, if_neg (by omega)]
      rw [← ef]
      exact h9
    refine w206_19 hs ⟨fun h3 => ?_, fun _ => r_c hs (by omega) hA h24 (fun t ht => by rw [if_neg (by omega)]; exact o1.2.2 t ht) (i := i) (by omega) rfl ⟨_, rfl, ?_⟩⟩
    · rw [nI_leI (by omega) (by omega)] at h3; omega
    · rw [nI_add r 1, if_neg (by omega)]
      refine r_c' hs (by omega) (h2.keep hF (by omega) o2.1) o2 (i := i) (by omega) rfl ⟨_, rfl, fun h4 => ?_, fun h4 => ⟨fun h5 => ?_, fun h5 => ?_⟩⟩
      · rw [nI_eq (by omega) (by omega)] at h4
        exact r_by hs hr2 (z := c i + e i) (by omega) (by rw [iI_add, iI_l (by omega)]) ⟨_, rfl, hset _ (by unfold jf; rw [if_pos h4]) _ _⟩
      · rw [nI_eq (by omega) (by omega)] at h4 h5
        exact r_by hs hr2 (z := c i - e i) (by omega) (by rw [iI_sub, iI_l (by omega)]) ⟨_, rfl, hset _ (by unfold jf; rw [if_neg h4, if_pos h5]) _ _⟩
      · rw [nI_eq (by omega) (by omega)] at h4 h5
        exact r_by hs hr2 (z := c i * e i) (by omega) (by rw [iI_l (by omega), iI_l (by omega), iL_mul]) ⟨_, rfl, hset _ (by unfold jf; rw [if_neg h4, if_neg h5]) _ _⟩
theorem r_join (hs : qSh g) (hr : rR I p M) (hr1 : r < 39) (h1 : rS I r n c) (h2 : rS I (r + 1) m e) (o1 : okS p n c) (o2 : okS p m e) {w : Nat} (hw : w < 100) (k : ∀ I', rS I' r (min n m) (zx p (min n m) (fun i => jf w (c i) (e i))) → rF (rUp r) I I' → Q (some (.int (-1))) g I' J) : qC (d + 1) 206 [.ref 105, .int (nI r), .int (nI w)] g I J Q := by
  have h24 := o1.1
  have h25 := o2.1
  refine w206 hs (r_len hs (by omega) h1.1 ⟨_, rfl, ?_⟩)
  rw [nI_add]
  refine r_len hs (by omega) h2.1 ⟨_, rfl, r_least (by omega) (by omega) ⟨_, rfl, ?_⟩⟩
  exact r_join_l hs hr hr1 h2 o1 o2 hw (by omega) k (min n m) 0 I qpad qpad (by omega) ⟨h1.1, fun t ht => by dsimp only; rw [if_neg (by omega)]; exact h1.2 t ht⟩ (rF.refl _ _)
/-! an operation of one, of two -/
theorem r_two (hs : qSh g) (hr : rR I p M) (hr1 : r < 39) {f h : Sr} (h1 : rS I r f.1 f.2) (h2 : rS I (r + 1) h.1 h.2) (o1 : okR p M f) (o2 : okR p M h) {w : Nat} (hw : w < 100) (k : ∀ I', ((x2o p M w f h).1 = -1 → rS I' r (x2o p M w f h).2.1 (x2o p M w f h).2.2) → rF (rUp r) I I' → Q (some (.int (iI (x2o p M w f h).1))) g I' J) : qC (d + 4) 207 [.ref 105, .int (nI r), .int (nI w)] g I J Q := by
  obtain ⟨n, c⟩ := f
  obtain ⟨m, e⟩ := h
  obtain ⟨q1, q2, o1⟩ := o1
  obtain ⟨q3, q4, o2⟩ := o2
  dsimp only at *
  have hM := hr.2.2.2
  refine w207 hs ⟨fun h5 => ?_, fun h5 => ?_, fun h5 => ?_, fun h5 => ?_⟩
  · rw [nI_eq (by omega) (by omega)] at h5
    subst h5
    rw [nI_add]
    refine r_mul hs hr (by omega) (by omega) (to := 40) (by omega) (by omega) h1 h2 o1 o2 (fun I1 a1 f1 => ⟨rfl, r_copy hs (s := 40) (by omega) (by omega) (by omega) a1 (by unfold mln; omega) (fun I2 b1 f2 => ⟨rfl, ?_⟩)⟩)
    rw [iI_zm1]
    exact k I2 (fun _ => b1) ((f1.mono (fun q h => by show r ≤ q; omega)).trans (f2.mono (fun q h => by show r ≤ q; omega)))
  · rw [nI_eq (by omega) (by omega)] at h5
    subst h5
    refine r_div hs hr hr1 h1 h2 o1 o2 q1 q3 (fun h6 => ⟨_, rfl, k I (fun h7 => absurd h7 h6) (rF.refl _ _)⟩) (fun h6 I' a1 f1 => ⟨_, rfl, ?_⟩)
    have h7 : (x2o p M 6 (n, c) (m, e)).1 = -1 := h6
    have := k I' (fun _ => a1) f1
    rw [h7] at this
    rwa [← iI_zm1] at this
  · rw [nI_eq (by omega) (by omega)] at h5
    subst h5
    refine r_cmp hs hr hr1 h1 h2 o1 o2 q1 ⟨q3, q4⟩ (fun h6 => ⟨_, rfl, ?_⟩) (fun h6 I' a1 f1 => ⟨_, rfl, ?_⟩)
    · have e9 : x2o p M 15 (n, c) (m, e) = (2, (n, c)) := if_neg h6
      have := k I (fun h7 => by rw [e9] at h7; cases h7) (rF.refl _ _)
      rw [e9] at this
      rwa [show iI 2 = nI 2 from (nI_iI 2).symm] at this
    · have e9 : x2o p M 15 (n, c) (m, e) = (-1, cLen M n m c e, sCmp p M n m c e) := if_pos h6
      have := k I' (fun _ => by rw [e9]; exact a1) f1
      rw [e9] at this
      rwa [← iI_zm1] at this
  · obtain ⟨h6, h7, h8⟩ := h5
    rw [nI_eq (by omega) (by omega)] at h6 h7 h8
    refine r_join hs hr hr1 h1 h2 o1 o2 hw (fun I' a1 f1 => ⟨_, rfl, ?_⟩)
    have e9 : x2o p M w (n, c) (m, e) = (-1, min n m, zx p (min n m) (fun i => jf w (c i) (e i))) := by
      by_cases w3 : w = 3
      · subst w3; rfl
      · by_cases w4 : w = 4
        · subst w4; rfl
        · have ej : (fun i => jf w (c i) (e i)) = fun i => c i * e i := by funext i; unfold jf; rw [if_neg w3, if_neg w4]
          rw [ej]
          unfold x2o
          split <;> first | rfl | omega
    have := k I' (fun _ => by rw [e9]; exact a1) f1
    rw [e9] at this
    rwa [← iI_zm1] at this
theorem r_one (hs : qSh g) (hr : rR I p M) (hr1 : r < 40) {f : Sr} (h1 : rS I r f.1 f.2) (o1 : okR p M f) {w a : Nat} (hw : w < 100) (ha : a < 1000) (ha13 : w = 13 → 2 ≤ a ∧ a < 100) (k : ∀ I', ((x1o p M w a f).1 = -1 → rS I' r (x1o p M w a f).2.1 (x1o p M w a f).2.2) → rF (rUp r) I I' → Q (some (.int (iI (x1o p M w a f).1))) g I' J) : qC (d + 5) 208 [.ref 105, .int (nI r), .int (nI w), .int (nI a)] g I J Q := by
  obtain ⟨n, c⟩ := f
  obtain ⟨q1, q2, o1⟩ := o1
  dsimp only at *
  have hM := hr.2.2.2
  have h24 := o1.1
  refine w208 hs ⟨fun h5 => ?_, fun h5 => ?_, fun h5 => ?_, fun h5 => ?_, fun h5 => ?_, fun h5 => ?_, fun h5 => ?_, fun h5 => ?_⟩
  · rw [nI_eq (by omega) (by omega)] at h5
    subst h5
    refine r_pow hs hr hr1 h1 o1 q1 q2 ha (fun I' a1 f1 => ⟨_, rfl, ?_⟩)
    rw [iI_zm1]
    exact k I' (fun _ => a1) f1
  · rw [nI_eq (by omega) (by omega)] at h5
    subst h5
    refine r_der hs hr (by omega) h1 o1 q1 (fun h6 => ⟨_, rfl, ?_⟩) (fun h6 I' a1 f1 => ⟨_, rfl, ?_⟩)
    · have e9 : x1o p M 8 a (n, c) = (5, (n, c)) := if_pos h6
      have := k I (fun h7 => by rw [e9] at h7; cases h7) (rF.refl _ _)
      rw [e9] at this
      rwa [show iI 5 = nI 5 from (nI_iI 5).symm] at this
    · have e9 : x1o p M 8 a (n, c) = (-1, n - 1, sDer p n c) := if_neg (by dsimp only; omega)
      have := k I' (fun _ => by rw [e9]; exact a1) (f1.mono (fun q h => by show r ≤ q; omega))
      rw [e9] at this
      rwa [← iI_zm1] at this
  · rw [nI_eq (by omega) (by omega)] at h5
    subst h5
    exact r_int hs hr hr1 h1 o1 q1 (fun I' a1 f1 => ⟨_, rfl, k I' a1 f1⟩)
  · rw [nI_eq (by omega) (by omega)] at h5
    subst h5
    exact r_log hs hr hr1 h1 o1 q1 (fun I' a1 f1 => ⟨_, rfl, k I' a1 f1⟩)
  · rw [nI_eq (by omega) (by omega)] at h5
    subst h5
    refine r_exp hs hr hr1 h1 o1 q1 (fun h6 => ⟨_, rfl, ?_⟩) (fun h6 I' a1 f1 => ⟨_, rfl, ?_⟩)
    · have e9 : x1o p M 11 a (n, c) = (2, (n, c)) := if_neg h6
      have := k I (fun h7 => by rw [e9] at h7; cases h7) (rF.refl _ _)
      rw [e9] at this
      rwa [show iI 2 = nI 2 from (nI_iI 2).symm] at this
    · have e9 : x1o p M 11 a (n, c) = (-1, min n p, sExp p (min n p) c) := if_pos h6
      have := k I' (fun _ => by rw [e9]; exact a1) f1
      rw [e9] at this
      rwa [← iI_zm1] at this
  · rw [nI_eq (by omega) (by omega)] at h5
    subst h5
    exact r_rev hs hr hr1 h1 o1 q1 (fun I' a1 f1 => ⟨_, rfl, k I' a1 f1⟩)
  · rw [nI_eq (by omega) (by omega)] at h5
    subst h5
    exact r_root hs hr hr1 h1 o1 q1 (ha13 rfl) (fun I' a1 f1 => ⟨_, rfl, k I' a1 f1⟩)
  · obtain ⟨h6, h7, h8, h9, h10, h11, h12⟩ := h5
    rw [nI_eq (by omega) (by omega)] at h6 h7 h8 h9 h10 h11 h12
    have e9 : x1o p M w a (n, c) = (-1, min n a, tr (min n a) c) := by
      unfold x1o
      split <;> first | rfl | omega
    refine r_len hs (by omega) h1.1 ⟨_, rfl, r_least (by omega) (by omega) ⟨_, rfl, r_setLen hs (by omega) ⟨rfl, ?_⟩⟩⟩
    have := k (qw I 115 (25 * r) (nI (min n a))) (fun _ => by
      rw [e9]
      refine ⟨zu_s, fun i hi => ?_⟩
      rw [zu_k (by omega), h1.2 i (by dsimp only at hi; omega)]
      dsimp only at hi ⊢
      unfold tr
      rw [if_pos hi]) ((rF_len (r := r)).mono (fun q h => by show r ≤ q; omega))
    rw [e9] at this
    rwa [← iI_zm1] at this
end RO3
