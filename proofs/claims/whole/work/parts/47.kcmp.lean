/-! compositions, reversions, powers that come to one, of the class -/
def cln (M v m L0 : Nat) (c : Nat → Int) : Nat → Nat
  | 0 => L0
  | j + 1 => if c j = 0 then cln M v m L0 c j else min (cln M v m L0 c j) (pL M v m j)
def cLen (M n m : Nat) (c e : Nat → Int) : Nat := cln M (od m e) m (min M (n * od m e)) c n
def csm (p M m : Nat) (c e : Nat → Int) (j i : Nat) : Int := sm (fun t => c t * pC p M (od m e) m e t i) j
def sCmp (p M n m : Nat) (c e : Nat → Int) : Nat → Int := zx p (cLen M n m c e) (csm p M m c e n)
theorem cln_le {M v m L0 : Nat} {c : Nat → Int} (j : Nat) : cln M v m L0 c j ≤ L0 := by
  induction j with
  | zero => exact Nat.le_refl _
  | succ j ih => unfold cln; split <;> omega
theorem cln_pos {M v m L0 : Nat} {c : Nat → Int} (hL : 1 ≤ L0) (hM : 1 ≤ M) (hm : 1 ≤ m) (j : Nat) : 1 ≤ cln M v m L0 c j := by
  induction j with
  | zero => exact hL
  | succ j ih =>
    unfold cln
    have := pL_pos (v := v) (k := j) hM hm
    split <;> omega
theorem cln_more {M v m L0 : Nat} {c : Nat → Int} {j n : Nat} (hj : j ≤ n) (h : ∀ i, j ≤ i → i < n → c i = 0) : cln M v m L0 c n = cln M v m L0 c j := by
  obtain ⟨k, rfl⟩ := Nat.exists_eq_add_of_le hj
  clear hj
  induction k with
  | zero => rfl
  | succ k ih =>
    rw [← Nat.add_assoc, cln, if_pos (h (j + k) (by omega) (by omega))]
    exact ih (fun i a b => h i a (by omega))
section KCMP
variable {d : Nat} {g : qG} {I : qI} {J : qJ} {Q : qQ} {p M n m x x1 x2 : Nat} {c e : Nat → Int}
theorem k_cmp_i (hs : qSh g) (hx1 : qSer g x1) (hx2 : qSer g x2) (h13 : 15 < x1) (hr : kR I p M) {len j : Nat} (hl : len ≤ 24) (hj : j < 24) {R P : Nat → Int} {cj : Int} (hc : I (x1 + 1) j = iI cj) (hR : ∀ i, i < len → I 13 i = iI (R i)) (hP : ∀ i, i < len → I 15 i = iI (P i)) (ocj : 0 ≤ cj ∧ cj < p) (oR : ∀ i, 0 ≤ R i ∧ R i < p) (oP : ∀ i, 0 ≤ P i ∧ P i < p) {i4 : Int32}
    (k : ∀ I', am I 13 len (fun i => iI ((R i + cj * P i) % p)) I' → qev (d + 1) 21 (55, [.ref 12, .ref x1, .ref x2, .int (nI len), .int i4, .int (nI (j + 1)), .int (nI len)], [], g, I', J) Q) : ∀ r i I', i + r = len → am I 13 i (fun i => iI ((R i + cj * P i) % p)) I' → qev (d + 1) 21 (101, [.ref 12, .ref x1, .ref x2, .int (nI len), .int i4, .int (nI j), .int (nI i)], [], g, I', J) Q
  | 0, i, I', hi, hA => by
    have e : i = len := by omega
    subst e
    refine w21_101 hs hx1 hx2 ⟨fun _ => ?_, fun h3 => ?_⟩
    · rw [nI_add]; exact k I' hA
    · exact absurd (Int32.le_refl _) h3
  | r + 1, i, I', hi, hA => by
    have hp := hr.p2
    have hr1 : kR I' p M := hr.frame (hA.1 12 (by omega))
    refine w21_101 hs hx1 hx2 ⟨fun h3 => ?_, fun _ => ⟨i, rfl, by omega, j, rfl, hj, i, rfl, by omega, hr1.nz, i, rfl, by omega, ?_⟩⟩
    · rw [nI_leI (by omega) (by omega)] at h3; omega
    · have b1 := oR i
      have b2 := oP i
      have b4 : 0 ≤ cj * P i ∧ cj * P i ≤ 997 * 997 := ⟨Int.mul_nonneg ocj.1 b2.1, Int.mul_le_mul (by omega) (by omega) b2.1 (by omega)⟩
      rw [hA.2.2 i (Nat.le_refl _), hR i (by omega), hA.1 (x1 + 1) (by omega), hc, hA.1 15 (by omega), hP i (by omega), iI_mul, iI_add, hr1.rem (by omega), nI_add]
      exact k_cmp_i hs hx1 hx2 h13 hr hl hj hc hR hP ocj oR oP k r (i + 1) _ (by omega) (am_s hA rfl)
theorem k_cmp_o (hs : qSh g) (hx1 : qSer g x1) (hx2 : qSer g x2) (h13 : 15 < x1 ∧ 15 < x2) (hd : dj x1 x2) (hr : kR I p M) (h1 : kS I x1 n c) (h2 : kS I x2 m e) (o1 : okS p n c) (o2 : okS p m e) (hn : 1 ≤ n) (hm : 1 ≤ m ∧ m ≤ M) {L0 : Nat} (hL0 : 1 ≤ L0 ∧ L0 ≤ M)
    (k : ∀ I', I' x1 1 = nI (cln M (od m e) m L0 c n) → (∀ i, i < cln M (od m e) m L0 c n → I' (x1 + 1) i = iI (csm p M m c e n i % p)) → (∀ b, b ≠ x1 → b ≠ x1 + 1 → b ≠ 13 → b ≠ 14 → b ≠ 15 → I' b = I b) → Q (some (.int (-1))) g I' J) :
    ∀ (r j : Nat) (I' : qI) (w6 : Value), j + r = (lz c n + 1).toNat → kS I' 14 (pL M (od m e) m (j - 1)) (pC p M (od m e) m e (j - 1)) → (∀ i, i < cln M (od m e) m L0 c j → I' 13 i = iI (csm p M m c e j i % p)) → (∀ b, b ≠ 13 → b ≠ 14 → b ≠ 15 → I' b = I b) →
      qev (d + 2) 21 (55, [.ref 12, .ref x1, .ref x2, .int (nI (cln M (od m e) m L0 c j)), .int (iI (lz c n)), .int (nI j), w6], [], g, I', J) Q
  | 0, j, I', w6, hj, hP, hR, hfr => by
    have hb := lz_bd c n
    have h24 := o1.1
    have hM := hr.2.2.2
    have ecl : cln M (od m e) m L0 c n = cln M (od m e) m L0 c j := cln_more (by omega) (fun i a b => lz_z c n i (by omega) b)
    have ecs : ∀ i, csm p M m c e n i = csm p M m c e j i := fun i => sm_more (by omega) (fun t a b => by rw [lz_z c n t (by omega) b, Int.zero_mul])
    have hl1 := cln_pos (M := M) (v := od m e) (m := m) (c := c) hL0.1 (by omega) hm.1 j
    have hl2 := cln_le (M := M) (v := od m e) (m := m) (L0 := L0) (c := c) j
    refine w21_55 hs hx1 hx2 ⟨fun _ => ⟨fun _ => ⟨0, 0, cln M (od m e) m L0 c j, rfl, rfl, rfl, by omega, by omega, k _ ?_ (fun i hi => ?_) (fun b a1 a2 a3 a4 a5 => by rw [zu_a a1, zv_a a2]; exact hfr b a3 a4 a5)⟩, fun h3 => ?_⟩, fun h3 => ?_⟩
    · rw [zu_s, ecl]
    · rw [ecl] at hi
      rw [zu_a (by omega), zv_s, pk_cpy_in (by omega) (by omega), show 0 + (i - 0) = i by omega, hR i hi, ecs]
    · rw [nI_leI (by omega) (by omega)] at h3; omega
    · rw [nI_iI, iI_lt (by omega) (by omega)] at h3; omega
  | r + 1, j, I', w6, hj, hP, hR, hfr => by
    have hb := lz_bd c n
    have h24 := o1.1
    have hM := hr.2.2.2
    have hp := hr.p2
    unfold dj at hd
    have hj24 : j < n := by omega
    have s14 : qSer g 14 := hs.ser rfl (by omega)
    have hr1 : kR I' p M := hr.frame (hfr 12 (by omega) (by omega) (by omega))
    have x1' : kS I' x1 n c := h1.frame (hfr x1 (by omega) (by omega) (by omega)) (hfr (x1 + 1) (by omega) (by omega) (by omega))
    have x2' : kS I' x2 m e := h2.frame (hfr x2 (by omega) (by omega) (by omega)) (hfr (x2 + 1) (by omega) (by omega) (by omega))
    have hl2 := cln_le (M := M) (v := od m e) (m := m) (L0 := L0) (c := c) j
    -- behind the power: with the coefficient at this place, or without
    have hnext : ∀ I2, kS I2 14 (pL M (od m e) m j) (pC p M (od m e) m e j) → (∀ b, b ≠ 14 → b ≠ 15 → I2 b = I' b) →
        (I2 (x1 + 1) j = 0 → qev (d + 2) 21 (55, [.ref 12, .ref x1, .ref x2, .int (nI (cln M (od m e) m L0 c j)), .int (iI (lz c n)), .int (nI j + nI 1), w6], [], g, I2, J) Q) ∧
        (¬ I2 (x1 + 1) j = 0 → qev (d + 2) 21 (101, [.ref 12, .ref x1, .ref x2, .int (qmin (nI (cln M (od m e) m L0 c j)) (I2 14 1)), .int (iI (lz c n)), .int (nI j), .int (nI 0)], [], g, I2, J) Q) := by
      intro I2 hP2 hf2
      have b0 := o1.2.1 j
      have hcj : I2 (x1 + 1) j = iI (c j) := by rw [hf2 (x1 + 1) (by omega) (by omega)]; exact x1'.2 j hj24
      rw [hcj]
      refine ⟨fun h3 => ?_, fun h3 => ?_⟩
      · rw [iI_z0, iI_eq (by omega) (by omega)] at h3
        rw [nI_add]
        have e1 : cln M (od m e) m L0 c (j + 1) = cln M (od m e) m L0 c j := by rw [cln, if_pos h3]
        have h9 := k_cmp_o hs hx1 hx2 h13 hd hr h1 h2 o1 o2 hn hm hL0 k r (j + 1) I2 w6 (by omega) (by rw [Nat.add_sub_cancel]; exact hP2) (fun i hi => ?_) (fun b a1 a2 a3 => by rw [hf2 b a2 a3]; exact hfr b a1 a2 a3)
        · rw [e1] at h9; exact h9
        · rw [e1] at hi
          rw [hf2 13 (by omega) (by omega), hR i hi]
          unfold csm
          rw [sm_s, h3, Int.zero_mul, Int.add_zero]
      · rw [iI_z0, iI_eq (by omega) (by omega)] at h3
        have hpl := pL_le M (od m e) m j
        rw [hP2.1, qmin_nI (by omega) (by omega)]
        have e1 : cln M (od m e) m L0 c (j + 1) = min (cln M (od m e) m L0 c j) (pL M (od m e) m j) := by rw [cln, if_neg h3]
        rw [← e1]
        have hl3 := cln_le (M := M) (v := od m e) (m := m) (L0 := L0) (c := c) (j + 1)
        refine k_cmp_i (d := d + 1) (cj := c j) (R := fun i => csm p M m c e j i % p) (P := pC p M (od m e) m e j) hs hx1 hx2 h13.1 (hr1.frame (hf2 12 (by omega) (by omega))) (by omega) (by omega) hcj (fun i hi => by rw [hf2 13 (by omega) (by omega)]; exact hR i (by omega)) (fun i hi => hP2.2 i (by omega)) b0 (fun i => ⟨Int.emod_nonneg _ (by omega), Int.emod_lt_of_pos _ (by omega)⟩) (pC_ok (by omega) hM.2 _).2.1 (fun I3 hA => ?_) (cln M (od m e) m L0 c (j + 1)) 0 I2 (by omega) (am_0 _ _ _)
        refine k_cmp_o hs hx1 hx2 h13 hd hr h1 h2 o1 o2 hn hm hL0 k r (j + 1) I3 _ (by omega) ?_ (fun i hi => ?_) (fun b a1 a2 a3 => by rw [hA.1 b a1, hf2 b a2 a3]; exact hfr b a1 a2 a3)
        · rw [Nat.add_sub_cancel]
          exact hP2.frame (hA.1 14 (by omega)) (hA.1 15 (by omega))
        · rw [hA.2.1 i hi]
          unfold csm
          dsimp only
          rw [sm_s, Int.emod_add_emod]
    refine w21_55 hs hx1 hx2 ⟨fun h3 => ?_, fun _ => ⟨fun h4 => ⟨j, rfl, by omega, ?_⟩, fun h4 => ?_⟩⟩
    · rw [nI_iI, iI_lt (by omega) (by omega)] at h3; omega
    · rw [← nI_0, nI_leI (by omega) (by omega)] at h4
      have e0 : j - 1 = j := by omega
      rw [e0] at hP
      exact hnext I' hP (fun _ _ _ => rfl)
    · rw [← nI_0, nI_leI (by omega) (by omega)] at h4
      refine k_mul hs s14 hx2 (by omega) (by omega) hr1 hP x2' (pC_ok (by omega) hM.2 _) o2 (pL_pos (by omega) hm.1) (fun I2 a1 a2 => ⟨rfl, j, rfl, by omega, ?_⟩)
      obtain ⟨m1, m2⟩ := pC_mul hr.2.2.1 (show 1 ≤ M by omega) o2 hm.1 (j - 1) 1 (Nat.le_refl _)
      obtain ⟨q1, q2⟩ := pC_1 o2 hm.2 (od m e)
      rw [q1, q2, show j - 1 + 1 = j by omega] at m1
      rw [q2, show j - 1 + 1 = j by omega] at m2
      rw [m1, m2] at a1
      exact hnext I2 a1 a2
theorem k_cmp (hs : qSh g) (hx1 : qSer g x1) (hx2 : qSer g x2) (h13 : 15 < x1 ∧ 15 < x2) (hd : dj x1 x2) (hr : kR I p M) (h1 : kS I x1 n c) (h2 : kS I x2 m e) (o1 : okS p n c) (o2 : okS p m e) (hn : 1 ≤ n) (hm : 1 ≤ m ∧ m ≤ M) (k0 : e 0 ≠ 0 → Q (some (.int (nI 2))) g I J) (k : e 0 = 0 → ∀ I', kS I' x1 (cLen M n m c e) (sCmp p M n m c e) → (∀ b, b ≠ x1 → b ≠ x1 + 1 → b ≠ 13 → b ≠ 14 → b ≠ 15 → I' b = I b) → Q (some (.int (-1))) g I' J) : qC (d + 2) 21 [.ref 12, .ref x1, .ref x2] g I J Q := by
  have hp := hr.p2
  have hM := hr.2.2.2
  have h24 := o1.1
  have b0 := o2.2.1 0
  have v2 := od_le m e
  unfold dj at hd
  refine w21 hs hx1 hx2 ⟨fun h3 => ?_, fun h3 => ?_⟩
  · rw [h2.2 0 (by omega), iI_z0, iI_eq (by omega) (by omega)] at h3
    refine k_first hx2 h2 o2 hp.2 ⟨_, rfl, k_lz hx1 h1 o1 hp.2 ⟨_, rfl, k_fill (hs.k rfl) (by omega) (fun I1 hA => ⟨rfl, k_setNum hs (hr.frame (hA.1 12 (by omega))) (hs.ser rfl (by omega)) (by omega) (v := 1) (by omega) (nI_iI 1) (fun I2 a1 a2 => ⟨rfl, ?_⟩)⟩)⟩⟩
    have hv1 : 1 ≤ od m e := od_ge hm.1 (fun i hi => by rw [show i = 0 by omega]; exact h3)
    have hnv : 1 ≤ n * od m e ∧ n * od m e ≤ 24 * 24 := ⟨Nat.mul_pos (by omega) (by omega), Nat.mul_le_mul h24 (by omega)⟩
    rw [h1.1, hr.2.1, pk_mul, qmin_nI (by omega) (by omega)]
    have e0 := pC_0 (p := p) (M := M) (n := m) (c := e) hp.1 (by omega) (od m e)
    refine k_cmp_o (L0 := min M (n * od m e)) hs hx1 hx2 h13 (by unfold dj; omega) hr h1 h2 o1 o2 hn hm (by omega) (fun I' b1 b2 b3 => k h3 I' ⟨b1, fun i hi => ?_⟩ b3) (lz c n + 1).toNat 0 I2 qpad (by omega) ?_ (fun i hi => ?_) (fun b g1 g2 g3 => by rw [a2 b g2 g3]; exact hA.1 b g1)
    · unfold sCmp
      rw [zx_lt hi]
      exact b2 i hi
    · rw [Nat.zero_sub, e0.1, e0.2]; exact a1
    · have hi2 : i < min M (n * od m e) := hi
      rw [a2 13 (by omega) (by omega), hA.2.1 i (by omega)]
      show nI 0 = iI (0 % p)
      rw [Int.zero_emod]
      exact nI_iI 0
  · rw [h2.2 0 (by omega), iI_z0, iI_eq (by omega) (by omega)] at h3
    exact k0 h3
/-! reversions -/
def whyRev (n : Nat) (c : Nat → Int) : Int := if n < 2 ∨ c 0 ≠ 0 ∨ c 1 = 0 then 2 else -1
def sRev (p n : Nat) (c : Nat → Int) : Nat → Int := ppl (revF p c (iv p (c 1))) 0 (n - 1)
def rvS (c h : Nat → Int) (j i : Nat) : Int := pX i - sm (fun t => h t * pw c t i) j
theorem k_rev_i (hs : qSh g) (hx : qSer g x) (h13 : 19 < x) (hr : kR I p M) (h24 : n ≤ 24) (h14 : I 14 1 = nI n) {R P : Nat → Int} {F : Int} {j : Nat} (hj : j ≤ n) (hF : 0 ≤ F ∧ F < p) (hR : ∀ i, i < n → I 13 i = iI (R i)) (hP : ∀ i, i < n → I 15 i = iI (P i)) (oR : ∀ i, 0 ≤ R i ∧ R i < p) (oP : ∀ i, 0 ≤ P i ∧ P i < p) {i2 i3 i4 : Int32}
    (k : ∀ I', (∀ b, b ≠ 13 → I' b = I b) → (∀ i, i < j → I' 13 i = iI (R i)) → (∀ i, j ≤ i → i < n → I' 13 i = iI ((R i + (p - F) * P i) % p)) → qev (d + 1) 17 (78, [.ref 12, .ref x, .int i2, .int i3, .int (i4 + nI 1), .int (iI F), .int (nI n)], [], g, I', J) Q) :
    ∀ r i I', i + r = n → j ≤ i → (∀ b, b ≠ 13 → I' b = I b) → (∀ t, t < j ∨ i ≤ t → I' 13 t = I 13 t) → (∀ t, j ≤ t → t < i → I' 13 t = iI ((R t + (p - F) * P t) % p)) → qev (d + 1) 17 (148, [.ref 12, .ref x, .int i2, .int i3, .int i4, .int (iI F), .int (nI i)], [], g, I', J) Q
  | 0, i, I', hi, hji, hfr, ho, hn => by
    have e : i = n := by omega
    subst e
    have e0 : I' 14 1 = nI i := by rw [hfr 14 (by omega)]; exact h14
    refine w17_148 hs hx ⟨fun _ => k I' hfr (fun t ht => by rw [ho t (Or.inl ht)]; exact hR t (by omega)) hn, fun h3 => ?_⟩
    rw [e0] at h3
    exact absurd (Int32.le_refl _) h3
  | r + 1, i, I', hi, hji, hfr, ho, hn => by
    have hp := hr.p2
    have e0 : I' 14 1 = nI n := by rw [hfr 14 (by omega)]; exact h14
    have hr1 : kR I' p M := hr.frame (hfr 12 (by omega))
    refine w17_148 hs hx ⟨fun h3 => ?_, fun _ => ⟨i, rfl, by omega, i, rfl, by omega, hr1.nz, i, rfl, by omega, ?_⟩⟩
    · rw [e0, nI_leI (by omega) (by omega)] at h3; omega
    · have b1 := oR i
      have b2 := oP i
      have b4 : 0 ≤ ((p : Int) - F) * P i ∧ ((p : Int) - F) * P i ≤ 997 * 997 := ⟨Int.mul_nonneg (by omega) b2.1, Int.mul_le_mul (by omega) (by omega) b2.1 (by omega)⟩
      rw [ho i (Or.inr (Nat.le_refl _)), hR i (by omega), hfr 15 (by omega), hP i (by omega), hr1.1, iI_sub, iI_mul, iI_add, ← hr1.1, hr1.rem (by omega), nI_add]
      refine k_rev_i hs hx h13 hr h24 h14 hj hF hR hP oR oP k r (i + 1) _ (by omega) (by omega) (fun b hb => by rw [zu_a hb]; exact hfr b hb) (fun t ht => by rw [zu_k (by omega)]; exact ho t (by omega)) (fun t a b => ?_)
      by_cases ht : t = i
      · rw [ht, zu_s]
      · rw [zu_k ht]; exact hn t a (by omega)
theorem k_rev_o (hs : qSh g) (hx : qSer g x) (h13 : 32 < x) (hr : kR I p M) (h1 : kS I x n c) (ho : okS p n c) (hnM : n ≤ M) (hn : 2 ≤ n) (hc0 : c 0 = 0) {hd : Int} (hhd : 0 ≤ hd ∧ hd < p) (hun : (p : Int) ∣ c 1 * hd - 1)
    (k : ∀ I' h, kS I' x n h → (∀ i, 0 ≤ h i ∧ h i < p) → pE p n (cp h c) pX → (∀ b, b ≠ x → b ≠ x + 1 → b ≠ 13 → b ≠ 14 → b ≠ 15 → b ≠ 18 → b ≠ 19 → I' b = I b) → Q (some (.int (-1))) g I' J) :
    ∀ (r j : Nat) (I' : qI) (h : Nat → Int) (w5 w6 : Value), j + r = n → 1 ≤ j → kA I' p 14 n (pw c (j - 1)) → (∀ i, 0 ≤ h i ∧ h i < p) → h 0 = 0 → (∀ t, t < j → I' 19 t = iI (h t)) → (∀ i, i < n → I' 13 i = iI (rvS c h j i % p)) → (∀ i, i < j → (p : Int) ∣ rvS c h j i) → (∀ b, b ≠ 13 → b ≠ 14 → b ≠ 15 → b ≠ 18 → b ≠ 19 → I' b = I b) →
      qev (d + 2) 17 (78, [.ref 12, .ref x, .int (iI hd), .int (iI (hd ^ (j - 1) % p)), .int (nI j), w5, w6], [], g, I', J) Q
  | 0, j, I', h, w5, w6, hj, hj1, hA, oh, hh0, hl, hR, hz, hfr => by
    have h24 := ho.1
    have e : j = n := by omega
    subst e
    have x' : kS I' x j c := h1.frame (hfr x (by omega) (by omega) (by omega) (by omega) (by omega)) (hfr (x + 1) (by omega) (by omega) (by omega) (by omega) (by omega))
    refine w17_78 hs hx ⟨fun _ => ?_, fun h3 => ?_⟩
    · rw [x'.1]
      refine k_copy hx (hs.ser rfl (by omega)) (by omega) (n := j) (c := h) ⟨zu_s, fun i hi => by rw [zu_a (by omega)]; exact hl i hi⟩ h24 (fun I1 a1 a2 => ⟨rfl, k I1 h a1 oh (fun i hi => ?_) (fun b b1 b2 b3 b4 b5 b6 b7 => by rw [a2 b b1 b2, zu_a b6]; exact hfr b b3 b4 b5 b6 b7)⟩)
      have h9 := hz i hi
      unfold rvS at h9
      rw [cp_more hc0 hi] at h9
      have h10 := Int.dvd_neg.mpr h9
      rwa [Int.neg_sub] at h10
    · rw [x'.1] at h3
      exact absurd (Int32.le_refl _) h3
  | r + 1, j, I', h, w5, w6, hj, hj1, hA, oh, hh0, hl, hR, hz, hfr => by
    have h24 := ho.1
    have hp := hr.p2
    have hM := hr.2.2.2
    have s14 : qSer g 14 := hs.ser rfl (by omega)
    have hr1 : kR I' p M := hr.frame (hfr 12 (by omega) (by omega) (by omega) (by omega) (by omega))
    have x' : kS I' x n c := h1.frame (hfr x (by omega) (by omega) (by omega) (by omega) (by omega)) (hfr (x + 1) (by omega) (by omega) (by omega) (by omega) (by omega))
    refine w17_78 hs hx ⟨fun h3 => ?_, fun _ => ?_⟩
    · rw [x'.1, nI_leI (by omega) (by omega)] at h3; omega
    · refine a_mul hs s14 hx (by omega) (by omega) hr1 (by omega) hA (x'.kA ho) (fun I2 A2 r2 => ⟨rfl, ?_⟩)
      obtain ⟨l, q, a1, a2, a3, a4⟩ := A2
      have x2 : I2 x 1 = nI n := by rw [r2 x (by omega) (by omega)]; exact x'.1
      refine k_short s14 a1 a2.1 (m := n) x2 (by omega) (fun I3 b1 b2 => ⟨rfl, ?_⟩)
      rw [show min l n = n by omega] at b1
      have oq : okS p n (fun i => if i < n then q i else 0) := ⟨h24, fun i => by dsimp only; split; exact a2.2.1 i; omega, fun i hi => if_neg (by omega)⟩
      generalize hq' : (fun i => if i < n then q i else 0) = q' at b1 oq
      have ejj : j - 1 + 1 = j := by omega
      have eq' : pE p n q' (pw c j) := by
        have : pw c j = cv (pw c (j - 1)) c := by rw [← pw_s, ejj]
        rw [this]
        exact (pE.of (fun i hi => by rw [← hq']; exact if_pos hi)).trans a4
      have hr3 : kR I3 p M := hr1.frame (by rw [b2 12 (by omega), r2 12 (by omega) (by omega)])
      have r13 : I3 13 = I' 13 := by rw [b2 13 (by omega), r2 13 (by omega) (by omega)]
      have r19 : I3 19 = I' 19 := by rw [b2 19 (by omega), r2 19 (by omega) (by omega)]
      have md : ∀ a : Int, 0 ≤ a % p ∧ a % p < p := fun a => ⟨Int.emod_nonneg _ (by omega), Int.emod_lt_of_pos _ (by omega)⟩
      have m1 := md (hd ^ (j - 1))
      have m3 := md (rvS c h j j)
      have b3 : 0 ≤ hd ^ (j - 1) % p * hd ∧ hd ^ (j - 1) % p * hd ≤ 997 * 997 := ⟨Int.mul_nonneg m1.1 hhd.1, Int.mul_le_mul (by omega) (by omega) hhd.1 (by omega)⟩
      have m2 := md (hd ^ (j - 1) % p * hd)
      have b4 : 0 ≤ rvS c h j j % p * (hd ^ (j - 1) % p * hd % p) ∧ rvS c h j j % p * (hd ^ (j - 1) % p * hd % p) ≤ 997 * 997 := ⟨Int.mul_nonneg m3.1 m2.1, Int.mul_le_mul (by omega) (by omega) m2.1 (by omega)⟩
      refine ⟨hr3.nz, j, rfl, by omega, hr3.nz, j, rfl, by omega, ?_⟩
      rw [r13, hR j (by omega), iI_mul, hr3.rem (by omega), iI_mul, hr3.rem (by omega)]
      have epw : hd ^ (j - 1) % p * hd % p = hd ^ (j + 1 - 1) % p := by
        have e5 : hd ^ (j - 1) * hd = hd ^ j := by
          conv => rhs; rw [show j = (j - 1) + 1 by omega, Int.pow_succ]
        rw [em_l, e5, Nat.add_sub_cancel]
      rw [epw] at b4 ⊢
      generalize hFF : rvS c h j j % p * (hd ^ (j + 1 - 1) % p) % p = F
      have oF : 0 ≤ F ∧ F < p := by rw [← hFF]; exact md _
      -- the new one
      have hh' : ∀ t, t < j → (fun t => if t = j then F else h t) t = h t := fun t ht => if_neg (by omega)
      have eS : ∀ i, rvS c (fun t => if t = j then F else h t) (j + 1) i = rvS c h j i - F * pw c j i := fun i => by
        unfold rvS
        have e5 : sm (fun t => (if t = j then F else h t) * pw c t i) j = sm (fun t => h t * pw c t i) j := sm_congr (fun t ht => by rw [if_neg (show ¬ t = j by omega)])
        rw [sm_s]
        dsimp only
        rw [e5, if_pos rfl]
        omega
      refine k_rev_i (d := d + 1) (n := n) (R := fun i => rvS c h j i % p) (P := q') (F := F) (j := j) (I := qw I3 19 j (iI F)) hs hx (by omega) (hr3.frame (zu_a (by omega))) h24 (by rw [zu_a (by omega)]; exact b1.1) (by omega) oF (fun i hi => by rw [zu_a (by omega), r13]; exact hR i hi) (fun i hi => by rw [zu_a (by omega)]; exact b1.2 i hi) (fun i => md _) oq.2.1 (fun I4 c1 c2 c3 => ?_) (n - j) j _ (by omega) (Nat.le_refl _) (fun _ _ => rfl) (fun _ _ => rfl) (fun t a b => by omega)
      rw [nI_add]
      refine k_rev_o hs hx h13 hr h1 ho hnM hn hc0 hhd hun k r (j + 1) I4 (fun t => if t = j then F else h t) _ _ (by omega) (by omega) ?_ (fun i => ?_) ?_ (fun t ht => ?_) (fun i hi => ?_) (fun i hi => ?_) (fun b g1 g2 g3 g4 g5 => ?_)
      · rw [Nat.add_sub_cancel]
        exact ⟨n, q', b1.frame (by rw [c1 14 (by omega), zu_a (by omega)]) (by rw [c1 15 (by omega), zu_a (by omega)]), oq, Nat.le_refl _, eq'⟩
      · split
        · exact oF
        · exact oh i
      · rw [if_neg (by omega)]; exact hh0
      · rw [c1 19 (by omega)]
        by_cases htj : t = j
        · rw [htj, zu_s, if_pos rfl]
        · rw [zu_k htj, if_neg htj, r19]; exact hl t (by omega)
      · rw [eS]
        by_cases hij : i < j
        · rw [c2 i hij, pw_lo hc0 j i hij, Int.mul_zero, Int.sub_zero]
        · rw [c3 i (by omega) hi]
          congr 1
          apply dvd_emod.mp
          have z1 := eq' i hi
          have z2 := pE.mod p n (rvS c h j) i hi
          dsimp only at z2
          have z3 := Int.dvd_sub z2 (Int.dvd_mul_of_dvd_right (b := F) z1)
          have z4 := Int.dvd_add z3 (Int.dvd_mul_right (p : Int) (q' i))
          generalize rvS c h j i % (p : Int) = u at z4 ⊢
          generalize rvS c h j i = u2 at z4 ⊢
          generalize pw c j i = u3 at z4 ⊢
          generalize q' i = u4 at z4 ⊢
          rwa [Int.mul_sub, show u - u2 - (F * u4 - F * u3) + (p : Int) * u4 = u + ((p : Int) - F) * u4 - (u2 - F * u3) by rw [Int.sub_mul]; omega] at z4
      · rw [eS]
        by_cases hij : i < j
        · rw [pw_lo hc0 j i hij, Int.mul_zero, Int.sub_zero]; exact hz i hij
        · rw [show i = j by omega]
          have etop := pw_top (c := c) (v := 1) (fun i hi => by rw [show i = 0 by omega]; exact hc0) j
          rw [Nat.mul_one] at etop
          rw [etop, ← hFF]
          -- R - (R hd^j % p) c1^j
          have y1 : (p : Int) ∣ (c 1 * hd) ^ j - 1 := by
            apply dvd_emod.mpr
            rw [← pw_em, dvd_emod.mp hun, pw_em, Int.one_pow]
          have y2 : rvS c h j j % p * (hd ^ (j + 1 - 1) % p) % p = rvS c h j j * hd ^ j % p := by rw [em_l, em_r, Nat.add_sub_cancel]
          rw [y2]
          have y3 := Int.emod_add_mul_ediv (rvS c h j j * hd ^ j) p
          generalize rvS c h j j * hd ^ j / (p : Int) = u at y3
          have y4 : rvS c h j j * hd ^ j % p = rvS c h j j * hd ^ j - p * u := by omega
          rw [y4]
          obtain ⟨t, ht⟩ := y1
          refine ⟨u * c 1 ^ j - rvS c h j j * t, ?_⟩
          have y5 : hd ^ j * c 1 ^ j = (c 1 * hd) ^ j := by rw [Int.mul_pow, Int.mul_comm]
          rw [Int.sub_mul, Int.mul_assoc, y5, show (c 1 * hd) ^ j = p * t + 1 by omega, Int.mul_add, Int.mul_one, Int.mul_sub, Int.mul_assoc, ← Int.mul_assoc (rvS c h j j), Int.mul_comm (rvS c h j j) p, Int.mul_assoc]
          omega
      · rw [c1 b g1, zu_a g5, b2 b g2, r2 b g2 g3]
        exact hfr b g1 g2 g3 g4 g5
theorem k_rev (hs : qSh g) (hx : qSer g x) (h13 : 32 < x) (hr : kR I p M) (h1 : kS I x n c) (ho : okS p n c) (hn : 1 ≤ n) (hnM : n ≤ M) (k : ∀ I', (whyRev n c = -1 → kS I' x n (sRev p n c)) → (∀ b, b ≠ x → b ≠ x + 1 → b ≠ 13 → b ≠ 14 → b ≠ 15 → b ≠ 18 → b ≠ 19 → I' b = I b) → Q (some (.int (iI (whyRev n c)))) g I' J) : qC (d + 2) 17 [.ref 12, .ref x] g I J Q := by
  have hp := hr.p2
  have hM := hr.2.2.2
  have h24 := ho.1
  have b0 := ho.2.1 0
  have b1 := ho.2.1 1
  have kno : (n < 2 ∨ c 0 ≠ 0 ∨ c 1 = 0) → Q (some (.int (nI 2))) g I J := fun h => by
    have e9 : whyRev n c = 2 := if_pos h
    have := k I (fun h => by rw [e9] at h; omega) (fun _ _ _ _ _ _ _ _ => rfl)
    rw [e9] at this
    rwa [show iI 2 = nI 2 from (nI_iI 2).symm] at this
  refine w17 hs hx ⟨fun h3 => ?_, fun h3 => ⟨fun h4 => ⟨fun h5 => ?_, fun h5 => ?_⟩, fun h4 => ?_⟩⟩
  · rw [h1.1, nI_ltI (by omega) (by omega)] at h3
    exact kno (Or.inl h3)
  · rw [h1.1, nI_ltI (by omega) (by omega)] at h3
    rw [h1.2 1 (by omega), iI_z0, iI_eq (by omega) (by omega)] at h5
    exact kno (Or.inr (Or.inr h5))
  · rw [h1.1, nI_ltI (by omega) (by omega)] at h3
    rw [h1.2 0 (by omega), iI_z0, iI_eq (by omega) (by omega)] at h4
    rw [h1.2 1 (by omega), iI_z0, iI_eq (by omega) (by omega)] at h5
    have e9 : whyRev n c = -1 := if_neg (by omega)
    have hun := hr.2.2.1.ivu h5 b1
    have rd := iv_red (p := p) (by omega) (c 1)
    refine k_fill (hs.k rfl) (by omega) (fun I1 hA => ⟨rfl, ?_⟩)
    have hr1 : kR (qw I1 13 1 (nI 1)) p M := hr.frame (by rw [zu_a (by omega)]; exact hA.1 12 (by omega))
    have e1 : qw I1 13 1 (nI 1) (x + 1) 1 = iI (c 1) := by rw [zu_a (by omega), hA.1 (x + 1) (by omega)]; exact h1.2 1 (by omega)
    refine k_inv hs hr1 (v := c 1) (by omega) e1 ⟨_, rfl, ?_⟩
    rw [ho.red]
    refine k_setNum hs (hr1.frame (zu_a (by omega))) (hs.ser rfl (by omega)) (by omega) (v := 1) (by omega) (nI_iI 1) (fun I2 a1 a2 => ⟨rfl, ?_⟩)
    have h19 : I2 19 0 = iI 0 := by rw [a2 19 (by omega) (by omega), zu_s]; exact nI_iI 0
    have h9 := k_rev_o (d := d) (Q := Q) (J := J) (hd := iv p (c 1)) hs hx h13 hr h1 ho hnM (by omega) h4 rd hun (fun I' h c1 c2 c3 c4 => ?_) (n - 1) 1 I2 (fun _ => 0) qpad qpad (by omega) (Nat.le_refl _) ?_ (fun i => by omega) rfl (fun t ht => by rw [show t = 0 by omega]; exact h19) (fun i hi => ?_) (fun i hi => ?_) (fun b g1 g2 g3 g4 g5 => ?_)
    · rw [Nat.sub_self, Int.pow_zero, Int.emod_eq_of_lt (by omega) (by omega), show iI 1 = nI 1 from (nI_iI 1).symm] at h9
      exact h9
    · have := k I' (fun _ => ?_) c4
      · rw [e9] at this
        rwa [← iI_zm1] at this
      · have hok := rev_ok (p := p) (f := c) (head := iv p (c 1)) h4 hun (n - 1)
        rw [show n - 1 + 1 = n by omega] at hok
        have hu := rev_uniq (g := sRev p n c) h4 (ppl_z _) c3 hok
        have hq := pE.eq (by omega) hu (fun i _ => c2 i) (fun i _ => ppl_red (F := revF p c (iv p (c 1))) (by omega) (by omega) (fun k y => by
          unfold revF
          split
          · exact rd
          · exact ⟨Int.emod_nonneg _ (by omega), Int.emod_lt_of_pos _ (by omega)⟩) _ i)
        exact ⟨c1.1, fun i hi => by rw [c1.2 i hi, hq i hi]⟩
    · refine ⟨M, sNum p 1, a1, sNum_ok (by omega) (by omega) 1, hnM, fun i _ => ?_⟩
      show (p : Int) ∣ sNum p 1 i - p1 i
      unfold sNum p1
      split
      · exact dvd_emod.mpr (Int.emod_emod _ _)
      · exact Int.dvd_zero _
    · have e7 : rvS c (fun _ => 0) 1 i = pX i := by
        unfold rvS
        rw [sm_zero (fun t _ => Int.zero_mul _), Int.sub_zero]
      rw [e7, a2 13 (by omega) (by omega), zu_a (by omega)]
      unfold pX
      by_cases hi1 : i = 1
      · rw [hi1, zu_s, if_pos rfl, Int.emod_eq_of_lt (by omega) (by omega)]; exact nI_iI 1
      · rw [zu_k hi1, hA.2.1 i (by omega), if_neg hi1, Int.zero_emod]; exact nI_iI 0
    · rw [show i = 0 by omega]
      unfold rvS
      rw [sm_zero (fun t _ => Int.zero_mul _), Int.sub_zero]
      exact Int.dvd_zero _
    · rw [a2 b g2 g3, zu_a g5, zu_a g1]
      exact hA.1 b g1
  · rw [h1.2 0 (by omega), iI_z0, iI_eq (by omega) (by omega)] at h4
    exact kno (Or.inr (Or.inl h4))
end KCMP
