/-! powers that come to one, of the class -/
def isOneV (p n : Nat) (c : Nat → Int) (v : Int) : Prop := (v = -1 ∧ ∀ k, 1 ≤ k → k ≤ 99 → ¬ isU p n c k) ∨ ∃ k : Nat, v = k ∧ 1 ≤ k ∧ k ≤ 99 ∧ isU p n c k ∧ ∀ j, 1 ≤ j → j < k → ¬ isU p n c j
theorem isOneV.uniq {p n : Nat} {c : Nat → Int} {v w : Int} (h1 : isOneV p n c v) (h2 : isOneV p n c w) : v = w := by
  rcases h1 with ⟨e1, a1⟩ | ⟨k, e1, a1, a2, a3, a4⟩
  · rcases h2 with ⟨e2, b1⟩ | ⟨j, e2, b1, b2, b3, b4⟩
    · rw [e1, e2]
    · exact absurd b3 (a1 j b1 b2)
  · rcases h2 with ⟨e2, b1⟩ | ⟨j, e2, b1, b2, b3, b4⟩
    · exact absurd a3 (b1 k a1 a2)
    · have h3 : ¬ j < k := fun h => a4 j b1 h b3
      have h4 : ¬ k < j := fun h => b4 k a1 h a3
      rw [e1, e2]
      omega
section KONE
variable {d : Nat} {g : qG} {I : qI} {J : qJ} {Q : qQ} {p M n m x : Nat} {c : Nat → Int}
theorem k_isOne (hs : qSh g) (hx : qSer g x) (hr : kR I p M) (h1 : kS I x n c) (ho : okS p n c) (hn : 1 ≤ n) (k1 : pE p n c p1 → Q (some (.int (nI 1))) g I J) (k0 : ¬ pE p n c p1 → Q (some (.int (nI 0))) g I J) : qC (d + 1) 25 [.ref 12, .ref x] g I J Q := by
  have hp := hr.p2
  have h24 := ho.1
  have b0 := ho.2.1 0
  have hb := lz_bd c n
  have hE : pE p n c p1 ↔ c 0 = 1 ∧ ∀ i, 1 ≤ i → i < n → c i = 0 := by
    constructor
    · intro h
      have h2 := pE.eq (by omega) h (fun i _ => ho.2.1 i) (fun i _ => by unfold p1; split <;> omega)
      refine ⟨h2 0 (by omega), fun i a b => ?_⟩
      rw [h2 i b]; exact if_neg (by omega)
    · intro h
      refine pE.of (fun i hi => ?_)
      unfold p1
      by_cases h0 : i = 0
      · rw [if_pos h0, h0]; exact h.1
      · rw [if_neg h0]; exact h.2 i (by omega) hi
  refine w25 hs hx ⟨fun h3 => k_lz hx h1 ho hp.2 ⟨_, rfl, fun h4 => k1 (hE.mpr ⟨?_, fun i a b => ?_⟩), fun h4 => k0 (fun h => h4 ?_)⟩, fun h3 => k0 (fun h => h3 ?_)⟩
  · rw [h1.2 0 (by omega), nI_iI, iI_eq (by omega) (by omega)] at h3; exact h3
  · rw [iI_z0, iI_eq (by omega) (by omega)] at h4
    exact lz_z c n i (by omega) b
  · have h5 := hE.mp h
    rw [iI_z0, iI_eq (by omega) (by omega)]
    -- the last one other than 0 is the first
    have h6 : lz c n ≠ -1 := fun e => by
      have := lz_z c n 0 (by omega) (by omega)
      omega
    have h7 := lz_nz c n (by omega)
    refine Classical.byContradiction (fun h8 => h7 (h5.2 _ (by omega) (by omega)))
  · rw [h1.2 0 (by omega), (hE.mp h).1]; exact (nI_iI 1).symm
theorem k_one_p (hs : qSh g) (hx : qSer g x) (h13 : 32 < x) (hr : kR I p M) (ho : okS p n c) (hn : 1 ≤ n) (hnM : n ≤ M) (hc0 : c 0 ≠ 0) {i3 : Int32}
    (k : ∀ I' v, isOneV p n c v → (∀ b, b ≠ x → b ≠ x + 1 → b ≠ 16 → b ≠ 17 → I' b = I b) → Q (some (.int (iI v))) g I' J) :
    ∀ (f N : Nat) (I' : qI), 100 < N + f → 1 ≤ N → N ≤ 99 → (p : Int) ∣ c 0 ^ N - 1 → (∀ k, 1 ≤ k → isU p n c k → N ∣ k) → kS I' x n (zx p n (pw c N)) → (∀ b, b ≠ x → b ≠ x + 1 → b ≠ 16 → b ≠ 17 → I' b = I b) →
      qev (d + 3) 24 (65, [.ref 12, .ref x, .int (nI N), .int i3], [], g, I', J) Q
  | 0, N, I', hf, h0, h99, hN, hd, hx1, hfr => by omega
  | f + 1, N, I', hf, h0, h99, hN, hd, hx1, hfr => by
    have hp := hr.p2
    have hM := hr.2.2.2
    have hr1 : kR I' p M := hr.frame (hfr 12 (by omega) (by omega) (by omega) (by omega))
    have hE : pE p n (zx p n (pw c N)) p1 ↔ isU p n c N := ⟨fun h => (zx_E (Nat.le_refl _)).symm.trans h, fun h => (zx_E (Nat.le_refl _)).trans h⟩
    have hz : okS p n (zx p n (pw c N)) := zx_ok (by omega) ho.1
    refine w24_65 hs hx (k_isOne hs hx hr1 hx1 hz hn (fun h3 => ⟨_, rfl, fun h4 => ?_, fun _ => ?_⟩) (fun h3 => ⟨_, rfl, fun _ => ⟨fun h5 => ?_, fun h5 => ?_⟩, fun h4 => ?_⟩))
    · exact absurd h4 (by rw [← nI_0, nI_eq (by omega) (by omega)]; omega)
    · rw [nI_iI]
      refine k I' _ (Or.inr ⟨N, rfl, h0, h99, hE.mp h3, fun j a b hj => ?_⟩) hfr
      have := Nat.le_of_dvd (by omega) (hd j a hj)
      omega
    · rw [hr1.1, ← nI_iI, pk_mul, nI_leI (by have := Nat.mul_le_mul h99 (show p ≤ 998 by omega); omega) (by omega)] at h5
      rw [hr1.1, ← nI_iI, pk_mul]
      refine k_raise hs hx (by omega) hr1 hx1 hz hn hnM (by omega) (fun I2 a1 a2 => ⟨rfl, ?_⟩)
      have hz0 : zx p n (pw c N) 0 ≠ 0 := by
        rw [zx_lt (by omega), pw_z]
        rw [dvd_emod.mp hN, Int.emod_eq_of_lt (by omega) (by omega)]
        omega
      have el : pL M (od n (zx p n (pw c N))) n p = n := by
        unfold pL
        rw [if_neg (by omega), od_0 hz0, Nat.mul_zero]
        omega
      have ec : pC p M (od n (zx p n (pw c N))) n (zx p n (pw c N)) p = zx p n (pw c (N * p)) := by
        unfold pC
        rw [el]
        funext i
        by_cases hi : i < n
        · rw [zx_lt hi, zx_lt hi, pw_mul]
          exact dvd_emod.mp ((zx_E (p := p) (n := n) (m := n) (f := pw c N) (Nat.le_refl _)).pw p i hi)
        · rw [zx_ge (by omega), zx_ge (by omega)]
      rw [el, ec] at a1
      have hNp : 2 * N ≤ N * p := by rw [Nat.mul_comm]; exact Nat.mul_le_mul_left N hp.1
      refine k_one_p hs hx h13 hr ho hn hnM hc0 k f (N * p) I2 (by omega) (by omega) (by omega) ?_ (fun k a b => ?_) a1 (fun b c1 c2 c3 c4 => by rw [a2 b c1 c2 c3 c4]; exact hfr b c1 c2 c3 c4)
      · rw [Int.pow_mul]
        apply dvd_emod.mpr
        rw [← pw_em, dvd_emod.mp hN, pw_em, Int.one_pow]
      · exact one_step hr.2.2.1 hN hd (fun h => h3 (hE.mpr h)) a b
    · rw [hr1.1, ← nI_iI, pk_mul, nI_leI (by have := Nat.mul_le_mul h99 (show p ≤ 998 by omega); omega) (by omega)] at h5
      rw [iI_zm1]
      refine k I' _ (Or.inl ⟨rfl, fun k a b hk => ?_⟩) hfr
      have := Nat.le_of_dvd (by omega) (one_step hr.2.2.1 hN hd (fun h => h3 (hE.mpr h)) a hk)
      omega
    · exact absurd nI_0 h4
theorem k_one_h (hs : qSh g) (hx : qSer g x) (h13 : 32 < x) (hr : kR I p M) (h1 : kS I x n c) (ho : okS p n c) (hn : 1 ≤ n) (hnM : n ≤ M) (hc0 : c 0 ≠ 0)
    (k : ∀ I' v, isOneV p n c v → (∀ b, b ≠ x → b ≠ x + 1 → b ≠ 16 → b ≠ 17 → I' b = I b) → Q (some (.int (iI v))) g I' J) :
    ∀ f N, N + f = 101 → 1 ≤ N → (∀ j, 1 ≤ j → j < N → ¬ (p : Int) ∣ c 0 ^ j - 1) → qev (d + 3) 24 (20, [.ref 12, .ref x, .int (nI N), .int (iI (c 0 ^ N % p))], [], g, I, J) Q
  | 0, N, hf, h0, hno => by
    have hp := hr.p2
    have h24 := ho.1
    have kno : Q (some (.int (-1))) g I J := by
      rw [iI_zm1]
      refine k I _ (Or.inl ⟨rfl, fun j a b hj => hno j a (by omega) ?_⟩) (fun _ _ _ _ _ => rfl)
      have := hj 0 (by omega)
      rwa [pw_z] at this
    refine w24_20 hs hx ⟨fun h3 => ⟨fun h4 => ?_, fun h4 => kno⟩, fun h3 => ⟨fun h4 => ⟨fun h5 => ?_, fun h5 => kno⟩, fun h4 => ?_⟩⟩
    · rw [nI_leI (by omega) (by omega)] at h4; omega
    · rw [nI_leI (by omega) (by omega)] at h5; omega
    · rw [nI_ltI (by omega) (by omega)] at h4; omega
  | f + 1, N, hf, h0, hno => by
    have hp := hr.p2
    have h24 := ho.1
    have hM := hr.2.2.2
    have b0 := ho.2.1 0
    have md : 0 ≤ c 0 ^ N % p ∧ c 0 ^ N % p < p := ⟨Int.emod_nonneg _ (by omega), Int.emod_lt_of_pos _ (by omega)⟩
    have kno : 99 < N → Q (some (.int (-1))) g I J := fun h => by
      rw [iI_zm1]
      refine k I _ (Or.inl ⟨rfl, fun j a b hj => hno j a (by omega) ?_⟩) (fun _ _ _ _ _ => rfl)
      have := hj 0 (by omega)
      rwa [pw_z] at this
    refine w24_20 hs hx ⟨fun h3 => ⟨fun h4 => ?_, fun h4 => ?_⟩, fun h3 => ⟨fun h4 => ⟨fun h5 => ?_, fun h5 => ?_⟩, fun h4 => ⟨hr.nz, ?_⟩⟩⟩
    · rw [nI_leI (by omega) (by omega)] at h4
      rw [nI_iI, iI_eq (by omega) (by omega)] at h3
      have hN : (p : Int) ∣ c 0 ^ N - 1 := by
        apply dvd_emod.mpr
        rw [h3]
        exact (Int.emod_eq_of_lt (by omega) (by omega)).symm
      refine k_raise hs hx (by omega) hr h1 ho hn hnM (by omega) (fun I2 a1 a2 => ⟨rfl, ?_⟩)
      have el : pL M (od n c) n N = n := by
        unfold pL
        rw [if_neg (by omega), od_0 hc0, Nat.mul_zero]
        omega
      unfold pC at a1
      rw [el] at a1
      refine k_one_p hs hx h13 hr ho hn hnM hc0 k 100 N I2 (by omega) h0 h4 hN (fun j a b => ?_) a1 a2
      have h6 := b 0 (by omega)
      rw [pw_z] at h6
      exact ord_dvd h0 hN hno h6
    · rw [nI_leI (by omega) (by omega)] at h4; exact kno (by omega)
    · rw [nI_leI (by omega) (by omega)] at h5
      rw [nI_ltI (by omega) (by omega)] at h4; omega
    · rw [nI_leI (by omega) (by omega)] at h5; exact kno (by omega)
    · rw [nI_iI 1, iI_eq (by omega) (by omega)] at h3
      have b4 : 0 ≤ c 0 ^ N % p * c 0 ∧ c 0 ^ N % p * c 0 ≤ 997 * 997 := ⟨Int.mul_nonneg md.1 b0.1, Int.mul_le_mul (by omega) (by omega) b0.1 (by omega)⟩
      rw [h1.2 0 (by omega), iI_mul, hr.rem (by omega), nI_add, em_l, ← Int.pow_succ]
      refine k_one_h hs hx h13 hr h1 ho hn hnM hc0 k f (N + 1) (by omega) (by omega) (fun j a b hj => ?_)
      by_cases hjN : j = N
      · apply h3
        rw [hjN] at hj
        rw [dvd_emod.mp hj]
        exact Int.emod_eq_of_lt (by omega) (by omega)
      · exact hno j a (by omega) hj
theorem k_one (hs : qSh g) (hx : qSer g x) (h13 : 32 < x) (hr : kR I p M) (h1 : kS I x n c) (ho : okS p n c) (hn : 1 ≤ n) (hnM : n ≤ M) (k : ∀ I' v, isOneV p n c v → (∀ b, b ≠ x → b ≠ x + 1 → b ≠ 16 → b ≠ 17 → I' b = I b) → Q (some (.int (iI v))) g I' J) : qC (d + 3) 24 [.ref 12, .ref x] g I J Q := by
  have hp := hr.p2
  have b0 := ho.2.1 0
  refine w24 hx ⟨fun h3 => ?_, fun h3 => ?_⟩
  · rw [h1.2 0 (by omega), iI_z0, iI_eq (by omega) (by omega)] at h3
    rw [iI_zm1]
    refine k I _ (Or.inl ⟨rfl, fun j a b hj => ?_⟩) (fun _ _ _ _ _ => rfl)
    have h4 := hj 0 (by omega)
    obtain ⟨j', rfl⟩ : ∃ j', j = j' + 1 := ⟨j - 1, by omega⟩
    rw [pw_z, h3, Int.pow_succ, Int.mul_zero] at h4
    have h5 := Int.dvd_neg.mpr h4
    have h6 : -(0 - p1 0) = 1 := rfl
    rw [h6] at h5
    have := Int.le_of_dvd (by omega) h5
    omega
  · rw [h1.2 0 (by omega), iI_z0, iI_eq (by omega) (by omega)] at h3
    have h9 := k_one_h (d := d) (Q := Q) (J := J) hs hx h13 hr h1 ho hn hnM h3 k 100 1 (by omega) (Nat.le_refl _) (fun j a b => by omega)
    rw [Int.pow_succ, Int.pow_zero, Int.one_mul, ho.red, ← h1.2 0 (by omega)] at h9
    exact h9
end KONE
