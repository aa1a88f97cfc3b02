/-! RECURRENCES: what is asked for, and the reference -/
def cF (w : Nat) (x : Nat → Int) (i : Nat) : Int := if i = 0 then 1 else if i ≤ w then - x (i - 1) else 0
theorem dsc_cF {c x : Nat → Int} {w r : Nat} : dsc c (cF w x) w (w + r) = - (sm (fun k => rc c w r k * x k) w - rc c w r w) := by
  unfold dsc
  rw [sm_head]
  have e0 : cF w x 0 = 1 := if_pos rfl
  have e1 : sm (fun i => cF w x (i + 1) * c (w + r - (i + 1))) w = (-1) * sm (fun k => rc c w r k * x k) w := by
    rw [← sm_mul]
    refine sm_congr (fun i hi => ?_)
    unfold cF rc
    rw [if_neg (by omega), if_pos (by omega), if_pos hi, show i + 1 - 1 = i by omega, show w + r - (i + 1) = w + r - 1 - i by omega]
    rw [Int.neg_mul, Int.neg_mul, Int.one_mul, Int.mul_comm]
  have e2 : rc c w r w = c (w + r) := if_neg (by omega)
  rw [e0, e1, e2, show w + r - 0 = w + r by omega]
  omega
theorem sol_gG {p : Int} {c x : Nat → Int} {n w : Nat} (h : w ≤ n) : sol p (n - w) w (rc c w) x ↔ gG p c n w (cF w x) := by
  constructor
  · intro hs
    refine ⟨if_pos rfl, fun i hi => by unfold cF; rw [if_neg (by omega), if_neg (by omega)], fun j h1 h2 => ?_⟩
    have := hs (j - w) (by omega)
    rw [show j = w + (j - w) by omega, dsc_cF]
    exact Int.dvd_neg.mpr this
  · intro hg r hr
    have := hg.2.2 (w + r) (by omega) (by omega)
    rw [dsc_cF] at this
    exact Int.dvd_neg.mp this
theorem gG_cF {p : Int} {c C : Nat → Int} {n w : Nat} (h : gG p c n w C) : gG p c n w (cF w (fun k => - C (k + 1))) := by
  have e : cF w (fun k => - C (k + 1)) = C := by
    funext i
    unfold cF
    by_cases h0 : i = 0
    · rw [if_pos h0, h0, h.1]
    · rw [if_neg h0]
      by_cases h1 : i ≤ w
      · rw [if_pos h1]; dsimp only; rw [show i - 1 + 1 = i by omega]; omega
      · rw [if_neg h1, h.2.1 i (by omega)]
  rw [e]
  exact h
/-- what is to be answered: r, for the number i -/
def recA (p n : Nat) (c : Nat → Int) (i r : Int) : Prop := ∃ L C, gG p c n L C ∧ (∀ M E, gG p c n M E → L ≤ M) ∧ ((n < 2 * L ∧ r = -1) ∨ (2 * L ≤ n ∧ i = 0 ∧ r = L) ∨ (2 * L ≤ n ∧ 1 ≤ i ∧ i ≤ L ∧ 0 ≤ r ∧ r < p ∧ (p : Int) ∣ r + C i.toNat) ∨ (2 * L ≤ n ∧ (i < 0 ∨ L < i) ∧ r = -1))
theorem recA_uniq {p n : Nat} (hp : pr p) {c : Nat → Int} {i r r' : Int} (h : recA p n c i r) (h' : recA p n c i r') : r = r' := by
  obtain ⟨L, C, hC, hm, H⟩ := h
  obtain ⟨L', C', hC', hm', H'⟩ := h'
  have e1 := hm L' C' hC'
  have e2 := hm' L C hC
  have e : L' = L := by omega
  subst e
  rcases H with ⟨a1, a2⟩ | ⟨a1, a2, a3⟩ | ⟨a1, a2, a3, a4, a5, a6⟩ | ⟨a1, a2, a3⟩ <;> rcases H' with ⟨b1, b2⟩ | ⟨b1, b2, b3⟩ | ⟨b1, b2, b3, b4, b5, b6⟩ | ⟨b1, b2, b3⟩ <;> try omega
  have hu := rec_uniq hp hC hC' hm a1 i.toNat
  obtain ⟨u, hu⟩ := hu
  obtain ⟨y, hy⟩ := a6
  obtain ⟨z, hz⟩ := b6
  have hd : (p : Int) ∣ r - r' := ⟨y - z - u, by rw [Int.mul_sub, Int.mul_sub]; omega⟩
  have := Int.eq_zero_of_dvd_of_natAbs_lt_natAbs hd (by omega)
  omega
theorem least_ex {P : Nat → Prop} (n : Nat) : P n → ∃ L, P L ∧ ∀ M, P M → L ≤ M := by
  induction n using Nat.strongRecOn with
  | ind n ih =>
    intro hn
    by_cases h : ∃ m, m < n ∧ P m
    · obtain ⟨m, h1, h2⟩ := h
      exact ih m h1 h2
    · exact ⟨n, hn, fun M hM => Nat.le_of_not_lt (fun hlt => h ⟨M, hlt, hM⟩)⟩
section RECUR
variable {d : Nat} {g : qG} {I : qI} {J : qJ} {Q : qQ} {p M n : Nat} {c : Nat → Int}
theorem eR.trans {I I1 I2 : qI} (h : eR I I1) (h2 : eR I1 I2) : eR I I2 := ⟨fun b b1 b2 b3 => by rw [h2.1 b b1 b2 b3, h.1 b b1 b2 b3], fun j hj => by rw [h2.2 j hj, h.2 j hj]⟩
theorem rR.er {I I' : qI} {p M : Nat} (h : rR I p M) (f : eR I I') : rR I' p M := ⟨by rw [f.1 105 (by omega) (by omega) (by omega)]; exact h.1, by rw [f.1 105 (by omega) (by omega) (by omega)]; exact h.2.1, h.2.2⟩
theorem rS.er {I I' : qI} {n : Nat} {c : Nat → Int} (h : rS I 0 n c) (hn : n ≤ 24) (f : eR I I') : rS I' 0 n c := ⟨by rw [f.2 _ (by omega)]; exact h.1, fun i hi => by rw [f.2 _ (by omega)]; exact h.2 i hi⟩
theorem r_recur_l (hs : qSh g) {I0 : qI} {x1 : Int32} {i : Int} (hi : -2147483648 ≤ i ∧ i < 2147483648) (kk : ∀ I' r, eR I0 I' → recA p n c i r → -1 ≤ r → r < 1000 → Q (some (.int (iI r))) g I' J) : ∀ (f w : Nat) (I : qI), 2 * w + f = n + 2 → rR I p M → rS I 0 n c → okS p n c → eR I0 I → (∀ L C, gG p c n L C → w ≤ L) → qev (d + 3) 258 (30, [.ref 105, .int x1, .int (iI i), .int (nI n), .int (nI w)], [], g, I, J) Q := by
  intro f
  induction f using Nat.strongRecOn with
  | ind f ih =>
    intro w I hf hR hS o1 hF hmin
    have h24 := o1.1
    have hp := hR.2.2.1.2
    have hp2 := hR.2.2.1.two
    refine w258_30 hs ?_
    rw [pk_mul, nI_ltI (by omega) (by omega), nI_leI (by omega) (by omega)]
    by_cases h2 : n < 2 * w
    · refine brT h2 (brN (by omega) ?_)
      -- none at all
      have hex : ∃ L, (∃ C, gG p c n L C) ∧ ∀ M, (∃ E, gG p c n M E) → L ≤ M := by
        have hn : ∃ C, gG p c n n C := ⟨fun i => if i = 0 then 1 else 0, if_pos rfl, fun i hi => if_neg (by omega), fun j h1 h2 => absurd h2 (by omega)⟩
        exact least_ex n hn
      obtain ⟨L, ⟨C, hC⟩, hm⟩ := hex
      have hl := hmin L C hC
      rw [iI_zm1]
      exact kk I (-1) hF ⟨L, C, hC, fun M E hE => hm M ⟨E, hE⟩, Or.inl ⟨by omega, rfl⟩⟩ (by omega) (by omega)
    · refine brN h2 (r_brings hs hR hS o1 (by omega) (fun I1 x f1 s1 b1 z1 r1 => ⟨_, rfl, br1 (brT (by omega) ?_)⟩) (fun I1 f1 hno => ⟨_, rfl, br0 ?_⟩))
      · have hC := (sol_gG (by omega)).mp s1
        have hm : ∀ M E, gG p c n M E → w ≤ M := hmin
        have F1 := hF.trans f1
        rw [iI_z0, iI_eq (by omega) (by omega)]
        by_cases h0 : i = 0
        · refine brT h0 ?_
          rw [nI_iI]
          exact kk I1 w F1 ⟨w, _, hC, hm, Or.inr (Or.inl ⟨by omega, h0, rfl⟩)⟩ (by omega) (by omega)
        · refine brN h0 (r_isIn (a := i) (b := 1) (c := (w : Int)) (by rw [iI_l (by omega)]) (lN_iL 1) (by rw [nI_iI, iI_l (by omega)]) (by omega) (by omega) (by omega) (fun h5 => ⟨_, rfl, br1 ?_⟩) (fun h5 => ⟨_, rfl, br0 ?_⟩))
          · have ei : iI i - nI 1 = nI (i.toNat - 1) := by
              rw [nI_iI, nI_iI, iI_sub]
              congr 1
              omega
            refine r_c hs (by omega) r1 (by omega) (fun k hk => z1 k (by omega)) (i := i.toNat - 1) (by omega) ei ⟨_, rfl, ?_⟩
            have bx := b1 (i.toNat - 1)
            refine kk I1 _ F1 ⟨w, _, hC, hm, Or.inr (Or.inr (Or.inl ⟨by omega, by omega, by omega, bx.1, bx.2, ?_⟩))⟩ (by omega) (by omega)
            have : cF w x i.toNat = - x (i.toNat - 1) := by unfold cF; rw [if_neg (by omega), if_pos (by omega)]
            rw [this]
            exact ⟨0, by omega⟩
          · rw [iI_zm1]
            exact kk I1 (-1) F1 ⟨w, _, hC, hm, Or.inr (Or.inr (Or.inr ⟨by omega, by omega, rfl⟩))⟩ (by omega) (by omega)
      · rw [nI_add]
        refine ih (f - 2) (by omega) (w + 1) I1 (by omega) (hR.er f1) (hS.er h24 f1) o1 (hF.trans f1) (fun L C hC => ?_)
        have h1 := hmin L C hC
        by_cases e : L = w
        · subst e
          exact absurd ((sol_gG (by omega)).mpr (gG_cF hC)) (hno _)
        · omega
end RECUR
