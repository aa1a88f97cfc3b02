/-! powers: how far they are known -/
theorem pw_low {c : Nat → Int} {v : Nat} (h : ∀ i, i < v → c i = 0) : ∀ k i : Nat, i < k * v → pw c k i = 0
  | 0, i, hi => by rw [Nat.zero_mul] at hi; omega
  | k + 1, i, hi => by
    rw [Nat.succ_mul] at hi
    rw [pw_s]
    refine sm_zero (fun j hj => ?_)
    by_cases hjk : j < k * v
    · rw [pw_low h k j hjk, Int.zero_mul]
    · rw [h (i - j) (by omega), Int.mul_zero]
theorem pw_top {c : Nat → Int} {v : Nat} (h : ∀ i, i < v → c i = 0) : ∀ k : Nat, pw c k (k * v) = c v ^ k
  | 0 => by rw [Nat.zero_mul, Int.pow_zero]; rfl
  | k + 1 => by
    rw [pw_s, Nat.succ_mul]
    unfold cv
    rw [sm_one (j := k * v) (by omega) (fun i h1 h2 => ?_), pw_top h k, show k * v + v - k * v = v by omega, Int.pow_succ]
    by_cases hik : i < k * v
    · rw [pw_low h k i hik, Int.zero_mul]
    · rw [h (k * v + v - i) (by omega), Int.mul_zero]
def pL (M v n k : Nat) : Nat := if k = 0 then M else min M ((k - 1) * v + n)
def pC (p M v n : Nat) (c : Nat → Int) (k : Nat) : Nat → Int := zx p (pL M v n k) (pw c k)
theorem pL_le (M v n k : Nat) : pL M v n k ≤ M := by unfold pL; split <;> omega
theorem pC_od {p M n : Nat} {c : Nat → Int} (hp : pr p) (hM : 1 ≤ M) (ho : okS p n c) (hn : 1 ≤ n) (k : Nat) : od (pL M (od n c) n k) (pC p M (od n c) n c k) = min M (k * od n c) := by
  have hv := od_le n c
  have hp2 := hp.two
  have hlow := fun i (hi : i < od n c) => od_z hi
  generalize hvv : od n c = v at *
  have hkv : k ≠ 0 → k * v = (k - 1) * v + v := fun h => by
    obtain ⟨q, rfl⟩ : ∃ q, k = q + 1 := ⟨k - 1, by omega⟩
    rw [Nat.succ_mul, Nat.add_sub_cancel]
  have hLv : min M (k * v) ≤ pL M v n k := by
    unfold pL
    by_cases hk : k = 0
    · rw [if_pos hk, hk, Nat.zero_mul]; omega
    · rw [if_neg hk, hkv hk]; omega
  have h1 : min M (k * v) ≤ od (pL M v n k) (pC p M v n c k) := od_ge hLv (fun i hi => by
    unfold pC zx
    split
    · rw [pw_low hlow k i (by omega), Int.zero_emod]
    · rfl)
  by_cases hlt : min M (k * v) < pL M v n k
  · have hle := pL_le M v n k
    have e : min M (k * v) = k * v := by omega
    refine Nat.le_antisymm ?_ h1
    refine Classical.byContradiction (fun h2 => ?_)
    have h3 := od_z (n := pL M v n k) (c := pC p M v n c k) (i := k * v) (by omega)
    unfold pC at h3
    rw [zx_lt (by omega), pw_top hlow k] at h3
    have h4 := hp.pow (Int.dvd_of_emod_eq_zero h3)
    have hvn : v < n := by
      unfold pL at hlt
      by_cases hk : k = 0
      · -- then the first one is c v to the 0
        rw [hk, Int.pow_zero] at h3
        rw [Int.emod_eq_of_lt (by omega) (by omega)] at h3
        omega
      · rw [if_neg hk, hkv hk] at hlt; omega
    have h5 := od_nz (n := n) (c := c) (by omega)
    rw [hvv] at h5
    have h6 := ho.2.1 v
    rw [← ho.red v] at h5
    exact h5 (Int.emod_eq_zero_of_dvd h4)
  · have := od_le (pL M v n k) (pC p M v n c k)
    omega
theorem pC_mul {p M n : Nat} {c : Nat → Int} (hp : pr p) (hM : 1 ≤ M) (ho : okS p n c) (hn : 1 ≤ n) (a b : Nat) (hb : 1 ≤ b) : mln M (pL M (od n c) n a) (pC p M (od n c) n c a) (pL M (od n c) n b) (pC p M (od n c) n c b) = pL M (od n c) n (a + b) ∧
    zx p (pL M (od n c) n (a + b)) (cv (pC p M (od n c) n c a) (pC p M (od n c) n c b)) = pC p M (od n c) n c (a + b) := by
  have hv := od_le n c
  have hlow := fun i (hi : i < od n c) => od_z hi
  have hl : mln M (pL M (od n c) n a) (pC p M (od n c) n c a) (pL M (od n c) n b) (pC p M (od n c) n c b) = pL M (od n c) n (a + b) := by
    unfold mln
    rw [pC_od hp hM ho hn, pC_od hp hM ho hn]
    generalize od n c = v at *
    have hbv : b * v = (b - 1) * v + v := by
      obtain ⟨q, rfl⟩ : ∃ q, b = q + 1 := ⟨b - 1, by omega⟩
      rw [Nat.succ_mul, Nat.add_sub_cancel]
    unfold pL
    by_cases ha : a = 0
    · rw [if_pos ha, if_neg (show ¬ b = 0 by omega), if_neg (show ¬ a + b = 0 by omega), ha, Nat.zero_mul, Nat.zero_add, hbv]
      omega
    · have hav : a * v = (a - 1) * v + v := by
        obtain ⟨q, rfl⟩ : ∃ q, a = q + 1 := ⟨a - 1, by omega⟩
        rw [Nat.succ_mul, Nat.add_sub_cancel]
      have habv : (a + b - 1) * v = a * v + (b - 1) * v := by rw [← Nat.add_mul]; congr 1; omega
      rw [if_neg ha, if_neg (show ¬ b = 0 by omega), if_neg (show ¬ a + b = 0 by omega), habv, hbv, hav]
      omega
  refine ⟨hl, ?_⟩
  funext i
  unfold pC
  by_cases hi : i < pL M (od n c) n (a + b)
  · rw [zx_lt hi, zx_lt hi, pw_add]
    apply dvd_emod.mp
    unfold cv
    rw [← sm_sub]
    refine sm_dvd (fun j hj => ?_)
    have hiM := pL_le M (od n c) n (a + b)
    generalize od n c = v at *
    by_cases h1 : j < pL M v n a
    · by_cases h2 : i - j < pL M v n b
      · rw [zx_lt h1, zx_lt h2]
        apply dvd_emod.mpr
        rw [em_l, em_r]
      · -- then a is 0 below
        have hz : pw c a j = 0 := pw_low hlow a j (by
          unfold pL at h2 hi
          rw [if_neg (show ¬ b = 0 by omega)] at h2
          rw [if_neg (show ¬ a + b = 0 by omega)] at hi
          have habv : (a + b - 1) * v = a * v + (b - 1) * v := by rw [← Nat.add_mul]; congr 1; omega
          rw [habv] at hi
          omega)
        rw [zx_lt h1, hz, Int.zero_emod, Int.zero_mul, Int.zero_mul, Int.sub_self]
        exact Int.dvd_zero _
    · have ha : a ≠ 0 := fun e => by unfold pL at h1; rw [if_pos e] at h1; omega
      have hz : pw c b (i - j) = 0 := pw_low hlow b (i - j) (by
        unfold pL at h1 hi
        rw [if_neg ha] at h1
        rw [if_neg (show ¬ a + b = 0 by omega)] at hi
        have habv : (a + b - 1) * v = (a - 1) * v + b * v := by rw [← Nat.add_mul]; congr 1; omega
        rw [habv] at hi
        omega)
      rw [zx_ge (by omega), hz, Int.zero_mul, Int.mul_zero, Int.sub_self]
      exact Int.dvd_zero _
  · rw [zx_ge (by omega), zx_ge (by omega)]
theorem pC_1 {p M n : Nat} {c : Nat → Int} (ho : okS p n c) (hn : n ≤ M) (v : Nat) : pL M v n 1 = n ∧ pC p M v n c 1 = c := by
  have e : pL M v n 1 = n := by
    unfold pL
    rw [if_neg (by omega), show (1 - 1) * v = 0 by rw [Nat.sub_self, Nat.zero_mul]]
    omega
  refine ⟨e, ?_⟩
  unfold pC
  rw [e, pw_1, ho.zx]
theorem pC_0 {p M n : Nat} {c : Nat → Int} (hp : 2 ≤ p) (hM : 1 ≤ M) (v : Nat) : pL M v n 0 = M ∧ pC p M v n c 0 = sNum p 1 := by
  refine ⟨if_pos rfl, ?_⟩
  funext i
  unfold pC pL sNum
  rw [if_pos rfl]
  show zx p M p1 i = _
  by_cases h0 : i = 0
  · rw [zx_lt (by omega), if_pos h0, h0]; rfl
  · unfold zx p1
    rw [if_neg h0, if_neg h0]
    split
    · rw [Int.zero_emod]
    · rfl
theorem pC_ok {p M n k : Nat} {c : Nat → Int} (hp : 0 < p) (hM : M ≤ 24) (v : Nat) : okS p (pL M v n k) (pC p M v n c k) := zx_ok hp (by have := pL_le M v n k; omega)
section KPOW
variable {d : Nat} {g : qG} {I : qI} {J : qJ} {Q : qQ} {p M n m x : Nat} {c : Nat → Int}
theorem pL_pos {M v n k : Nat} (hM : 1 ≤ M) (hn : 1 ≤ n) : 1 ≤ pL M v n k := by unfold pL; split <;> omega
theorem k_raise_l (hs : qSh g) (hx : qSer g x) (h13 : 17 < x) (hp : pr p) (ho : okS p n c) (hn : 1 ≤ n) (hM : 2 ≤ M ∧ M ≤ 24) {ex : Nat} {i2 : Int32}
    (k : ∀ I', kS I' x (pL M (od n c) n ex) (pC p M (od n c) n c ex) → (∀ b, b ≠ x → b ≠ x + 1 → b ≠ 16 → b ≠ 17 → I' b = I b) → Q none g I' J) : ∀ (f rest a b : Nat) (I' : qI), rest < f → rest < 1000 → a + b * rest = ex → 1 ≤ b → kR I' p M → kS I' x (pL M (od n c) n a) (pC p M (od n c) n c a) → kS I' 16 (pL M (od n c) n b) (pC p M (od n c) n c b) → (∀ b, b ≠ x → b ≠ x + 1 → b ≠ 16 → b ≠ 17 → I' b = I b) →
    qev (d + 2) 10 (16, [.ref 12, .ref x, .int i2, .int (nI rest)], [], g, I', J) Q
  | 0, rest, a, b, I', hf, _, _, _, _, _, _, _ => absurd hf (Nat.not_lt_zero _)
  | f + 1, rest, a, b, I', hf, hb, hab, hb1, hr, ha, hq, hfr => by
    have hp2 := hp.two
    have h16 : qSer g 16 := hs.ser rfl (by omega)
    have hnext : ∀ I2, kR I2 p M → kS I2 x (pL M (od n c) n (a + b * (rest % 2))) (pC p M (od n c) n c (a + b * (rest % 2))) → kS I2 16 (pL M (od n c) n b) (pC p M (od n c) n c b) → (∀ b, b ≠ x → b ≠ x + 1 → b ≠ 16 → b ≠ 17 → I2 b = I b) → 1 ≤ rest →
        ((nI rest ≤ nI 1 → qev (d + 2) 10 (16, [.ref 12, .ref x, .int i2, .int (qshr (nI rest) (nI 1))], [], g, I2, J) Q) ∧ (¬ nI rest ≤ nI 1 → qC (d + 1) 9 [.ref 12, .ref 16, .ref 16] g I2 J (fun v _ I3 _ => v = none ∧ qev (d + 2) 10 (16, [.ref 12, .ref x, .int i2, .int (qshr (nI rest) (nI 1))], [], g, I3, J) Q))) := by
      intro I2 hr2 ha2 hq2 hfr2 hr1
      rw [shr1 (by omega)]
      have hhalf : rest = 2 * (rest / 2) + rest % 2 := by omega
      refine ⟨fun h3 => ?_, fun h3 => ?_⟩
      · rw [nI_leI (by omega) (by omega)] at h3
        refine k_raise_l hs hx h13 hp ho hn hM k f (rest / 2) (a + b * (rest % 2)) b I2 (by omega) (by omega) ?_ hb1 hr2 ha2 hq2 hfr2
        rw [show rest / 2 = 0 by omega, show rest % 2 = rest by omega, Nat.mul_zero, Nat.add_zero]; exact hab
      · refine k_mul hs h16 h16 (by omega) (by omega) hr2 hq2 hq2 (pC_ok (by omega) hM.2 _) (pC_ok (by omega) hM.2 _) (pL_pos (by omega) hn) (fun I3 a1 a2 => ⟨rfl, ?_⟩)
        obtain ⟨m1, m2⟩ := pC_mul hp (show 1 ≤ M by omega) ho hn b b hb1
        rw [m1, m2] at a1
        refine k_raise_l hs hx h13 hp ho hn hM k f (rest / 2) (a + b * (rest % 2)) (b + b) I3 (by omega) (by omega) ?_ (by omega) (hr2.frame (a2 12 (by omega) (by omega))) (ha2.frame (a2 x (by omega) (by omega)) (a2 (x + 1) (by omega) (by omega))) a1 (fun b' c1 c2 c3 c4 => by rw [a2 b' c3 c4]; exact hfr2 b' c1 c2 c3 c4)
        rw [← hab]
        conv => rhs; rw [hhalf]
        rw [Nat.mul_add b, Nat.add_mul, ← Nat.mul_assoc, Nat.mul_two, Nat.add_mul]
        omega
    refine w10_16 hs hx ⟨fun h3 => ?_, fun h3 => ⟨fun h4 => ?_, fun h4 => ?_⟩⟩
    · rw [← nI_0, nI_leI (by omega) (by omega)] at h3
      rw [show rest = 0 by omega, Nat.mul_zero, Nat.add_zero] at hab
      rw [hab] at ha
      exact k I' ha hfr
    · rw [← nI_0, nI_leI (by omega) (by omega)] at h3
      rw [and1 (by omega), nI_eq (by omega) (by omega)] at h4
      refine k_mul hs hx h16 (by omega) (by omega) hr ha hq (pC_ok (by omega) hM.2 _) (pC_ok (by omega) hM.2 _) (pL_pos (by omega) hn) (fun I2 a1 a2 => ⟨rfl, ?_⟩)
      obtain ⟨m1, m2⟩ := pC_mul hp (show 1 ≤ M by omega) ho hn a b hb1
      rw [m1, m2] at a1
      exact hnext I2 (hr.frame (a2 12 (by omega) (by omega))) (by rw [h4, Nat.mul_one]; exact a1) (hq.frame (a2 16 (by omega) (by omega)) (a2 17 (by omega) (by omega))) (fun b' c1 c2 c3 c4 => by rw [a2 b' c1 c2]; exact hfr b' c1 c2 c3 c4) (by omega)
    · rw [← nI_0, nI_leI (by omega) (by omega)] at h3
      rw [and1 (by omega), nI_eq (by omega) (by omega)] at h4
      exact hnext I' hr (by rw [show rest % 2 = 0 by omega, Nat.mul_zero, Nat.add_zero]; exact ha) hq hfr (by omega)
theorem k_raise (hs : qSh g) (hx : qSer g x) (h13 : 17 < x) (hr : kR I p M) (h1 : kS I x n c) (ho : okS p n c) (hn : 1 ≤ n) (hnM : n ≤ M) {ex : Nat} (hex : ex < 1000) (k : ∀ I', kS I' x (pL M (od n c) n ex) (pC p M (od n c) n c ex) → (∀ b, b ≠ x → b ≠ x + 1 → b ≠ 16 → b ≠ 17 → I' b = I b) → Q none g I' J) : qC (d + 2) 10 [.ref 12, .ref x, .int (nI ex)] g I J Q := by
  have hp := hr.2.2.1
  have hM := hr.2.2.2
  have hp2 := hp.two
  have h24 := ho.1
  refine w10 hs hx (k_copy (hs.ser rfl (by omega)) hx (by omega) h1 h24 (fun I1 a1 a2 => ⟨rfl, k_setNum hs (hr.frame (a2 12 (by omega) (by omega))) hx (by omega) (v := 1) (by omega) (nI_iI 1) (fun I2 b1 b2 => ⟨rfl, ?_⟩)⟩))
  have e0 := pC_0 (p := p) (M := M) (n := n) (c := c) hp2 (by omega) (od n c)
  have e1 := pC_1 ho hnM (od n c)
  refine k_raise_l hs hx h13 hp ho hn hM k (ex + 1) ex 0 1 I2 (by omega) hex (by omega) (Nat.le_refl _) (hr.frame (by rw [b2 12 (by omega) (by omega), a2 12 (by omega) (by omega)])) ?_ ?_ (fun b c1 c2 c3 c4 => by rw [b2 b c1 c2, a2 b c3 c4])
  · rw [e0.1, e0.2]; exact b1
  · rw [e1.1, e1.2]
    exact a1.frame (b2 16 (by omega) (by omega)) (b2 17 (by omega) (by omega))
end KPOW
