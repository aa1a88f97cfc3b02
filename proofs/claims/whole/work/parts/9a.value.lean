/-! calls: value, sums, newton -/
section VALUES
variable {d : Nat} {g : qG} {I I' : qI} {J : qJ} {Q : qQ} {t : List Nat} {p M n : Nat} {s s' : ST} {hs hs' : List ST} {im im' : Option ST} {sc : SC} {rf : RF} {x x1 x2 x3 : Int32} {regs : Nat → Sr} {a r q : Nat} {c : Nat → Int}
theorem nI_lN {k : Nat} (h : k < 2147483648) : Int32.toInt64 (nI k) = lN k := by rw [nI_iI, iI_l (by omega), ← lN_iL]
theorem r_val_l (hs : qSh g) (hR : rR I p M) (hr : r < 8) (hG : ∀ i, i < n → I 111 (25 * r + 1 + i) = iI (c i)) (ho : okS p n c) {z : Int} (hz : 0 ≤ z ∧ z < 997) : ∀ (t : Nat) (a : Int), t ≤ n → 0 ≤ a ∧ a < p → Q (some (.int (iI (hor p c z t a)))) g I J → qev (d + 1) 245 (42, [.ref 105, .int (nI r), .int (iI z), .int (iI a), .int (iI ((t : Int) - 1))], [], g, I, J) Q
  | 0, a, _, ha, k => w245_42 hs (brT (by rw [iI_z0, iI_lt (by omega) (by omega)]; omega) k)
  | t + 1, a, ht, ha, k => by
    have h24 := ho.1
    have hp := hR.p2
    have b1 : 0 ≤ a * z ∧ a * z ≤ 997 * 997 := ⟨Int.mul_nonneg ha.1 hz.1, Int.mul_le_mul (by omega) (by omega) hz.1 (by omega)⟩
    have b2 := ho.2.1 t
    rw [show iI (((t + 1 : Nat) : Int) - 1) = nI t by rw [nI_iI]; congr 1; omega]
    refine w245_42 hs (brN (nI_pos (by omega)) ⟨25 * r + 1 + t, r25i r t, by omega, ?_⟩)
    rw [hG t (by omega), iI_l (by omega), iI_l (by omega), iI_l (by omega), iL_mul, iL_add]
    refine r_by hs hR (by omega) rfl ⟨_, rfl, ?_⟩
    rw [show nI t + (-1) = iI ((t : Int) - 1) by rw [nI_iI, iI_zm1, iI_add]; rfl]
    exact r_val_l hs hR hr hG ho hz t _ (by omega) ⟨Int.emod_nonneg _ (by omega), Int.emod_lt_of_pos _ (by omega)⟩ k
theorem c_value (ok : okW p M s hs im sc) : bOK 119 245 [.int x1, .int x2] (t, p, M, s, hs, im, sc, rf) := by
  by_cases hz : lnr s.1 x1 = 0
  · refine ⟨-1, (t, p, M, s, hs, im, sc, rf), ok, fun d g I J Q h k => ?_, fun d g I J Q hsh h k => ?_⟩
    · have h : kI g I t p M s hs im sc rf := h
      refine w119 h.1.1 (k_len h.1.1 h.2.2.2.2.2.1.1 ⟨_, rfl, ?_⟩)
      rw [hz]; exact br0 (k g I J h (kFr.refl g I))
    · have h : rI I t p M s hs im sc rf := h
      have h2 := h.keep ok rKp.th
      exact w245 hsh (r_heldI hsh ok h2 (fun h0 => absurd hz h0) (fun _ => ⟨_, rfl, br0 (k _ J h2 rKp.th.fr)⟩))
  · obtain ⟨r, hr, rfl, hn, hp, ho, hM, h24⟩ := ok.full hz
    rcases cls x2 997 (by omega) with ⟨z, hz2, rfl⟩ | hx
    · refine ⟨iI (hor p (s.1 r).2 z (s.1 r).1 0), (t, p, M, s, hs, im, sc, rf), ok, fun d g I J Q h k => ?_, fun d g I J Q hsh h k => ?_⟩
      · have h : kI g I t p M s hs im sc rf := h
        have hR := h.2.2.2.2.1.R ok hp
        refine w119 h.1.1 (k_len h.1.1 h.2.2.2.2.2.1.1 ⟨_, rfl, ?_⟩)
        rw [lnr_at hr, ← nI_0, nI_eq (by omega) (by omega)]
        refine brN hn ?_
        rw [nI_0]
        refine brN (nI_pos (by omega)) (brT (by rw [nI_leI (by omega) (by omega)]; omega) ?_)
        refine k_load (h.1.1.ser rfl (by omega)) (h.1.1.sta rfl (by omega)) (by omega) h.2.2.2.2.2.1.1 ok.bd.1.1 hr (fun I1 s1 f1 => ⟨rfl, k_val h.1.1 (h.1.1.ser rfl (by omega)) (hR.frame (f1 12 (by omega) (by omega))) s1 ho (v := z) (by omega) (nI_iI z) ⟨_, rfl, ?_⟩⟩)
        exact k g I1 J (h.keep ⟨fun b hb => f1 b (by omega) (by omega), by rw [f1 4 (by omega) (by omega)], by rw [f1 4 (by omega) (by omega)], by rw [f1 4 (by omega) (by omega)], by rw [f1 8 (by omega) (by omega)]⟩) (kFr.same (fun b hb => f1 b (by omega) (by omega)))
      · have h : rI I t p M s hs im sc rf := h
        have h2 := h.keep ok rKp.th
        have k := k _ J h2 rKp.th.fr
        have hG := h2.2.2.1.1 r hr
        rw [Nat.zero_add] at hG
        refine w245 hsh (r_heldI hsh ok h2 (fun _ => ⟨_, rfl, br1 (r_in rfl (by omega) (fun _ _ _ => ⟨_, rfl, br1 ⟨25 * r, pk_mul 25 r, by omega, ?_⟩⟩) (fun h0 => absurd rfl (h0 z hz2)))⟩) (fun h0 => absurd h0 hz))
        rw [hG.1, show nI (s.1 r).1 - nI 1 = iI (((s.1 r).1 : Int) - 1) by rw [nI_iI, nI_iI, iI_sub]; rfl, show nI 0 = iI 0 from nI_iI 0, nI_iI z]
        exact r_val_l hsh (h2.2.1.R ok hp) hr hG.2 ho (by omega) (s.1 r).1 0 (Nat.le_refl _) (by omega) k
    · refine ⟨-1, (t, p, M, s, hs, im, sc, rf), ok, fun d g I J Q h k => ?_, fun d g I J Q hsh h k => ?_⟩
      · have h : kI g I t p M s hs im sc rf := h
        have k := k g I J h (kFr.refl g I)
        refine w119 h.1.1 (k_len h.1.1 h.2.2.2.2.2.1.1 ⟨_, rfl, ?_⟩)
        rw [lnr_at hr, ← nI_0, nI_eq (by omega) (by omega)]
        refine brN hn ?_
        rw [nI_0]
        exact brIle (by omega) (fun r hr e => absurd e (hx r hr)) (fun _ => ⟨k, k⟩)
      · have h : rI I t p M s hs im sc rf := h
        have h2 := h.keep ok rKp.th
        have k := k _ J h2 rKp.th.fr
        exact w245 hsh (r_heldI hsh ok h2 (fun _ => ⟨_, rfl, br1 (r_in rfl (by omega) (fun z hz e => absurd e (hx z hz)) (fun _ => ⟨_, rfl, br0 k⟩))⟩) (fun h0 => absurd h0 hz))
theorem sm_lt (ho : okS p n c) (hp : p < 998) {i : Nat} (hi : i ≤ 24) : 0 ≤ sm c i ∧ sm c i ≤ 24 * 997 := by
  have := sm_bd (f := c) (B := 997) (n := i) (fun j _ => by have := ho.2.1 j; omega)
  exact ⟨this.1, Int.le_trans this.2 (by omega)⟩
theorem k_sums_l (hs : qSh g) (hG : kG I 89 regs) (hR : kR I p M) (hr : r < 8) (ho : okS p (regs r).1 (regs r).2) {m : Nat} (hm : m < (regs r).1) (k : Q (some (.int (iI (sm (regs r).2 (m + 1) % p)))) g I J) : ∀ f i, i + f = m + 1 → qev (d + 1) 125 (20, [.ref 4, .int (nI r), .int (nI m), .int (iI (sm (regs r).2 i)), .int (nI i)], [], g, I, J) Q
  | 0, i, hi => by
    have h24 := ho.1
    have e : i = m + 1 := by omega
    subst e
    have hb := sm_lt ho hR.p2.2 (i := m + 1) (by omega)
    refine w125_20 hs (brT (by rw [nI_ltI (by omega) (by omega)]; omega) (w2 hs ⟨hR.nz, _, rfl, ?_⟩))
    rw [hR.rem (by omega)]
    exact k
  | f + 1, i, hi => by
    have h24 := ho.1
    refine w125_20 hs (brN (by rw [nI_ltI (by omega) (by omega)]; omega) (k_cell (hs.sta rfl (by omega)) hG hr (i := i) (by omega) h24 rfl rfl ⟨_, rfl, ?_⟩))
    rw [iI_add, nI_add, ← sm_s]
    exact k_sums_l hs hG hR hr ho hm k f (i + 1) (by omega)
theorem r_sums_l (hs : qSh g) (hR : rR I p M) (hr : r < 8) (hG : ∀ i, i < n → I 111 (25 * r + 1 + i) = iI (c i)) (ho : okS p n c) {m : Nat} (hm : m < n) (k : Q (some (.int (iI (sm c (m + 1) % p)))) g I J) : ∀ f i, i + f = m + 1 → qev (d + 1) 260 (41, [.ref 105, .int (nI r), .int (nI m), .int (iI (sm c i % p)), .int (nI i)], [], g, I, J) Q
  | 0, i, hi => by
    have h24 := ho.1
    have e : i = m + 1 := by omega
    subst e
    exact w260_41 hs (brT (by rw [nI_ltI (by omega) (by omega)]; omega) k)
  | f + 1, i, hi => by
    have h24 := ho.1
    have hp := hR.p2
    have b1 := Int.emod_nonneg (sm c i) (show (p : Int) ≠ 0 by omega)
    have b2 := Int.emod_lt_of_pos (sm c i) (show (0 : Int) < p by omega)
    have b3 := ho.2.1 i
    refine w260_41 hs (brN (by rw [nI_ltI (by omega) (by omega)]; omega) ⟨25 * r + 1 + i, r25i r i, by omega, ?_⟩)
    rw [hG i (by omega), iI_add, iI_l (by omega)]
    refine r_by hs hR (by omega) rfl ⟨_, rfl, ?_⟩
    rw [nI_add, Int.emod_add_emod, ← sm_s]
    exact r_sums_l hs hR hr hG ho hm k f (i + 1) (by omega)
theorem c_sums (ok : okW p M s hs im sc) : bOK 125 260 [.int x1, .int x2] (t, p, M, s, hs, im, sc, rf) := by
  have l1 : lnr s.1 x1 ≤ 24 := by
    by_cases h : lnr s.1 x1 = 0
    · omega
    · obtain ⟨r, hr, rfl, _, _, _, _, h24⟩ := ok.full h
      rw [lnr_at hr]; exact h24
  rcases cls x2 (lnr s.1 x1) (by omega) with ⟨m, hm, rfl⟩ | hx
  · have hz : lnr s.1 x1 ≠ 0 := by omega
    obtain ⟨r, hr, rfl, hn, hp, ho, hM, h24⟩ := ok.full hz
    rw [lnr_at hr] at hm
    refine ⟨iI (sm (s.1 r).2 (m + 1) % p), (t, p, M, s, hs, im, sc, rf), ok, fun d g I J Q h k => ?_, fun d g I J Q hsh h k => ?_⟩
    · have h : kI g I t p M s hs im sc rf := h
      have hR := h.2.2.2.2.1.R ok hp
      have k := k g I J h (kFr.refl g I)
      refine w125 h.1.1 (brN (nI_pos (by omega)) (k_len h.1.1 h.2.2.2.2.2.1.1 ⟨_, rfl, brT (by rw [lnr_at hr, nI_ltI (by omega) (by omega)]; exact hm) ?_⟩))
      have := k_sums_l (d := d + 89) h.1.1 h.2.2.2.2.2.1.1 hR hr ho hm k (m + 1) 0 (by omega)
      rw [show nI 0 = iI 0 from nI_iI 0] at this ⊢
      exact this
    · have h : rI I t p M s hs im sc rf := h
      have h2 := h.keep ok rKp.th
      have k := k _ J h2 rKp.th.fr
      have hG := h2.2.2.1.1 r hr
      rw [Nat.zero_add] at hG
      refine w260 hsh (r_heldI hsh ok h2 (fun _ => ⟨_, rfl, br1 ⟨25 * r, pk_mul 25 r, by omega, ?_⟩⟩) (fun h0 => absurd h0 hz))
      rw [hG.1, pk_sub (by omega), nI_lN (k := (s.1 r).1 - 1) (by omega)]
      refine r_in rfl (by omega) (fun _ _ _ => ⟨_, rfl, br1 ?_⟩) (fun h0 => absurd rfl (h0 m (by omega)))
      have := r_sums_l (d := d + 89) hsh (h2.2.1.R ok hp) hr hG.2 ho hm k (m + 1) 0 (by omega)
      rw [show sm (s.1 r).2 0 % p = 0 from Int.zero_emod _] at this
      rw [show nI 0 = iI 0 from nI_iI 0] at this ⊢
      exact this
  · refine ⟨-1, (t, p, M, s, hs, im, sc, rf), ok, fun d g I J Q h k => ?_, fun d g I J Q hsh h k => ?_⟩
    · have h : kI g I t p M s hs im sc rf := h
      have k := k g I J h (kFr.refl g I)
      refine w125 h.1.1 ⟨fun _ => k, fun h0 => k_len h.1.1 h.2.2.2.2.2.1.1 ⟨_, rfl, brN (fun h1 => ?_) k⟩⟩
      rcases out_of hx (by omega) with h3 | h3
      · exact absurd h3 h0
      · exact absurd h3 (Int32.not_le.mpr h1)
    · have h : rI I t p M s hs im sc rf := h
      have h2 := h.keep ok rKp.th
      have k := k _ J h2 rKp.th.fr
      refine w260 hsh (r_heldI hsh ok h2 (fun hz => ⟨_, rfl, br1 ?_⟩) (fun _ => ⟨_, rfl, br0 k⟩))
      obtain ⟨r, hr, rfl, hn, hp, ho, hM, h24⟩ := ok.full hz
      have hG := h2.2.2.1.1 r hr
      rw [Nat.zero_add] at hG
      refine ⟨25 * r, pk_mul 25 r, by omega, ?_⟩
      rw [hG.1, pk_sub (by omega), nI_lN (by omega)]
      rw [lnr_at hr] at hx
      exact r_in rfl (by omega) (fun q hq e => absurd e (hx q (by omega))) (fun _ => ⟨_, rfl, br0 k⟩)
/-- an INVERSE so far -/
theorem sInv_0 {n : Nat} : sInv p n c 0 = iv p (c 0) := ppl_z _
theorem sInv_tr {m : Nat} (hm : m ≤ n) (h1 : 1 ≤ m) : ∀ i, i < m → sInv p m (tr m c) i = sInv p n c i := by
  intro i
  induction i using Nat.strongRecOn with
  | _ i ih =>
    intro hi
    have e0 : tr m c 0 = c 0 := if_pos (by omega)
    cases i with
    | zero => rw [sInv_0, sInv_0, e0]
    | succ i =>
      rw [sInv_at hi, sInv_at (by omega), e0]
      congr 2
      congr 1
      refine sm_congr (fun t ht => ?_)
      rw [ih (i + 1 - (t + 1)) (by omega) (by omega)]
      congr 1
      exact if_pos (by omega)
theorem shl_k : ∀ k, k < 5 → qshl (nI 1) (nI k) = nI (2 ^ k) := by decide +kernel
theorem c_newton (ok : okW p M s hs im sc) : bOK 120 246 [.int x1, .int x2, .int x3] (t, p, M, s, hs, im, sc, rf) := by
  by_cases hz : lnr s.1 x1 = 0
  · refine ⟨-1, (t, p, M, s, hs, im, sc, rf), ok, fun d g I J Q h k => ?_, fun d g I J Q hsh h k => ?_⟩
    · have h : kI g I t p M s hs im sc rf := h
      refine w120 h.1.1 (k_len h.1.1 h.2.2.2.2.2.1.1 ⟨_, rfl, ?_⟩)
      rw [hz]; exact br0 (k g I J h (kFr.refl g I))
    · have h : rI I t p M s hs im sc rf := h
      have h2 := h.keep ok rKp.th
      exact w246 hsh (r_heldI hsh ok h2 (fun h0 => absurd hz h0) (fun _ => ⟨_, rfl, br0 (k _ J h2 rKp.th.fr)⟩))
  · obtain ⟨r, hr, rfl, hn, hp, ho, hM, h24⟩ := ok.full hz
    have b0 := ho.2.1 0
    have hp9 := ok.p_lt
    rcases cls x2 5 (by omega) with ⟨kk, hk, rfl⟩ | hx
    · by_cases hc0 : (s.1 r).2 0 = 0
      · refine ⟨-1, (t, p, M, s, hs, im, sc, rf), ok, fun d g I J Q h k => ?_, fun d g I J Q hsh h k => ?_⟩
        · have h : kI g I t p M s hs im sc rf := h
          have k := k g I J h (kFr.refl g I)
          refine w120 h.1.1 (k_len h.1.1 h.2.2.2.2.2.1.1 ⟨_, rfl, ?_⟩)
          rw [lnr_at hr, ← nI_0, nI_eq (by omega) (by omega)]
          refine brN hn ?_
          rw [nI_0]
          refine brN (nI_pos (by omega)) (brN (by rw [nI_ltI (by omega) (by omega)]; omega) (k_cell (h.1.1.sta rfl (by omega)) h.2.2.2.2.2.1.1 hr (i := 0) (by omega) h24 rfl rfl ⟨_, rfl, ?_⟩))
          rw [hc0]
          exact brT iI_z0.symm k
        · have h : rI I t p M s hs im sc rf := h
          have h2 := h.keep ok rKp.th
          have k := k _ J h2 rKp.th.fr
          have hG := (h2.2.2.1.1 r hr).2 0 (by omega)
          rw [Nat.zero_add, Nat.add_zero] at hG
          refine w246 hsh (r_heldI hsh ok h2 (fun _ => ⟨_, rfl, br1 (r_in rfl (by omega) (fun _ _ _ => ⟨_, rfl, br1 ⟨25 * r + 1, by rw [pk_mul, nI_add], by omega, ?_⟩⟩) (fun h0 => absurd rfl (h0 kk (by omega))))⟩) (fun h0 => absurd h0 hz))
          rw [hG, hc0]
          exact brT iI_z0.symm k
      · have h2k : 1 ≤ 2 ^ kk := Nat.one_le_two_pow
        have h2k2 : 2 ^ kk ≤ 16 := show 2 ^ kk ≤ 2 ^ 4 from Nat.pow_le_pow_right (by decide) (by omega)
        have hne : ¬ iI ((s.1 r).2 0) = 0 := by rw [iI_z0, iI_eq (by omega) (by omega)]; exact hc0
        -- the common walks
        have K : ∀ (d : Nat) (g : qG) (I : qI) (J : qJ) (Q : qQ), kI g I t p M s hs im sc rf → ((x3 = (-1) → Q (some (.int (nI (min (2 ^ kk) (s.1 r).1)))) g I J) ∧ (¬ x3 = (-1) → ((x3 < 0 → Q (some (.int (-1))) g I J) ∧ (¬ x3 < 0 → ((x3 < nI (min (2 ^ kk) (s.1 r).1) → qC (d + 89) 82 [.ref 89, .int (nI r), .ref 87] g I J (fun v _ I1 _ => v = none ∧ qC (d + 89) 11 [.ref 12, .ref 87] g (qw I1 87 1 (nI (min (2 ^ kk) (s.1 r).1))) J (fun v _ I2 _ => v = none ∧ ∃ k2, x3 = nI k2 ∧ k2 < 24 ∧ Q (some (.int (I2 88 k2))) g I2 J))) ∧ (¬ x3 < nI (min (2 ^ kk) (s.1 r).1) → Q (some (.int (-1))) g I J)))))) → qC (d + 90) 120 [.ref 4, .int (nI r), .int (nI kk), .int x3] g I J Q := by
          intro d g I J Q h k
          refine w120 h.1.1 (k_len h.1.1 h.2.2.2.2.2.1.1 ⟨_, rfl, ?_⟩)
          rw [lnr_at hr, ← nI_0, nI_eq (by omega) (by omega)]
          refine brN hn ?_
          rw [nI_0]
          refine brN (nI_pos (by omega)) (brN (by rw [nI_ltI (by omega) (by omega)]; omega) (k_cell (h.1.1.sta rfl (by omega)) h.2.2.2.2.2.1.1 hr (i := 0) (by omega) h24 rfl rfl ⟨_, rfl, brN hne ⟨r, rfl, hr, ?_⟩⟩))
          rw [(h.2.2.2.2.2.1.1 r hr).1, shl_k kk hk, qmin_nI (by omega) (by omega)]
          exact k
        have R : ∀ (d : Nat) (g : qG) (I : qI) (J : qJ) (Q : qQ), qSh g → rI I t p M s hs im sc rf → (∀ I', rI I' t p M s hs im sc rf → rFw I I' → rS I' 40 (s.1 r).1 (sInv p (s.1 r).1 (s.1 r).2) → ((x3 = (-1) → Q (some (.int (nI (min (2 ^ kk) (s.1 r).1)))) g I' J) ∧ (¬ x3 = (-1) → qC (d + 89) 147 [.long (Int32.toInt64 x3), .long (lN 0), .long (lN (min (2 ^ kk) (s.1 r).1 - 1))] g I' J (fun v _ _ _ => ∃ r5, v = some (.int r5) ∧ ((r5 = 0 → Q (some (.int (-1))) g I' J) ∧ (¬ r5 = 0 → qC (d + 89) 182 [.ref 105, .int (nI 40), .int x3] g I' J (fun v _ _ _ => ∃ r6, v = some (.int r6) ∧ Q (some (.int r6)) g I' J))))))) → qC (d + 90) 246 [.ref 105, .int (nI r), .int (nI kk), .int x3] g I J Q := by
          intro d g I J Q hsh h k
          have h2 := h.keep ok rKp.th
          have hG := (h2.2.2.1.1 r hr).2 0 (by omega)
          rw [Nat.zero_add, Nat.add_zero] at hG
          refine w246 hsh (r_heldI hsh ok h2 (fun _ => ⟨_, rfl, br1 (r_in rfl (by omega) (fun _ _ _ => ⟨_, rfl, br1 ⟨25 * r + 1, by rw [pk_mul, nI_add], by omega, ?_⟩⟩) (fun h0 => absurd rfl (h0 kk (by omega))))⟩) (fun h0 => absurd h0 hz))
          rw [hG]
          refine brN hne (r_take hsh h2.2.2.1.1 hr (by omega) h24 (fun I1 f1 f2 s1 => ⟨rfl, r_len hsh (by omega) s1.1 ⟨_, rfl, ?_⟩⟩))
          have hR1 : rR I1 p M := ⟨by rw [f1 105 (by omega)]; exact (h2.2.1.R ok hp).1, by rw [f1 105 (by omega)]; exact (h2.2.1.R ok hp).2.1, (h2.2.1.R ok hp).2.2⟩
          rw [shl_k kk hk]
          refine r_least (by omega) (by omega) ⟨_, rfl, r_invt hsh hR1 (r := 0) (by omega) (to := 40) (by omega) (by omega) s1 ho (by omega) (fun I2 s2 f3 => ⟨rfl, ?_⟩)⟩
          have f4 := (rKp.trans rKp.th (rKp.s115 f1)).trans f3.kp
          have k := k I2 (h.keep ok f4) f4.fr s2
          rw [pk_sub (by omega), nI_lN (by omega)]
          exact k
        by_cases h1 : x3 = -1
        · refine ⟨nI (min (2 ^ kk) (s.1 r).1), (t, p, M, s, hs, im, sc, rf), ok, fun d g I J Q h k => ?_, fun d g I J Q hsh h k => ?_⟩
          · exact K d g I J Q h (brT h1 (k g I J h (kFr.refl g I)))
          · exact R d g I J Q hsh h (fun I' h' f' _ => brT h1 (k I' J h' f'))
        · rcases cls x3 (min (2 ^ kk) (s.1 r).1) (by omega) with ⟨i, hi, rfl⟩ | hx
          · refine ⟨iI (sInv p (s.1 r).1 (s.1 r).2 i), (t, p, M, s, hs, im, sc, rf), ok, fun d g I J Q h k => ?_, fun d g I J Q hsh h k => ?_⟩
            · have h : kI g I t p M s hs im sc rf := h
              have hR := h.2.2.2.2.1.R ok hp
              have x87 := h.1.1.ser (a := 87) rfl (by omega)
              refine K d g I J Q h (brN h1 (brN (nI_pos (by omega)) (brT (by rw [nI_ltI (by omega) (by omega)]; exact hi) (k_load x87 (h.1.1.sta rfl (by omega)) (by omega) h.2.2.2.2.2.1.1 ok.bd.1.1 hr (fun I1 s1 f1 => ⟨rfl, ?_⟩)))))
              have s2 : kS (qw I1 87 1 (nI (min (2 ^ kk) (s.1 r).1))) 87 (min (2 ^ kk) (s.1 r).1) (tr (min (2 ^ kk) (s.1 r).1) (s.1 r).2) := ⟨zu_s, fun j hj => by
                rw [zu_a (by omega), s1.2 j (by omega)]
                show _ = iI (if _ then _ else _)
                rw [if_pos hj]⟩
              refine k_invt h.1.1 x87 (by omega) (hR.frame (by rw [zu_a (by omega), f1 12 (by omega) (by omega)])) s2 (tr_ok ho (by omega) (by omega)) (by omega) (fun I2 s3 f2 => ⟨rfl, i, rfl, by omega, ?_⟩)
              rw [s3.2 i hi, sInv_tr (n := (s.1 r).1) (by omega) (by omega) i hi]
              have f3 : ∀ b, b ≠ 13 → b ≠ 87 → b ≠ 88 → I2 b = I b := fun b b1 b2 b3 => by rw [f2 b b1 b3, zu_a b2, f1 b b2 b3]
              exact k g I2 J (h.keep ⟨fun b hb => f3 b (by omega) (by omega) (by omega), by rw [f3 4 (by omega) (by omega) (by omega)], by rw [f3 4 (by omega) (by omega) (by omega)], by rw [f3 4 (by omega) (by omega) (by omega)], by rw [f3 8 (by omega) (by omega) (by omega)]⟩) (kFr.same (fun b hb => f3 b (by omega) (by omega) (by omega)))
            · refine R d g I J Q hsh h (fun I' h' f' s' => brN h1 (r_in rfl (by omega) (fun _ _ _ => ⟨_, rfl, br1 ?_⟩) (fun h0 => absurd rfl (h0 i (by omega)))))
              have oI := sInv_ok (c := (s.1 r).2) (show 0 < p by omega) (show 1 ≤ (s.1 r).1 by omega) h24
              exact r_c hsh (by omega) s' h24 oI.2.2 (by omega) rfl ⟨_, rfl, k I' J h' f'⟩
          · refine ⟨-1, (t, p, M, s, hs, im, sc, rf), ok, fun d g I J Q h k => ?_, fun d g I J Q hsh h k => ?_⟩
            · have k := k g I J h (kFr.refl g I)
              exact K d g I J Q h (brN h1 (brI (by omega) (fun i hi e => absurd e (hx i hi)) (fun _ => ⟨k, k⟩)))
            · exact R d g I J Q hsh h (fun I' h' f' s' => brN h1 (r_in rfl (by omega) (fun i hi e => absurd e (hx i (by omega))) (fun _ => ⟨_, rfl, br0 (k I' J h' f')⟩)))
    · refine ⟨-1, (t, p, M, s, hs, im, sc, rf), ok, fun d g I J Q h k => ?_, fun d g I J Q hsh h k => ?_⟩
      · have h : kI g I t p M s hs im sc rf := h
        have k := k g I J h (kFr.refl g I)
        refine w120 h.1.1 (k_len h.1.1 h.2.2.2.2.2.1.1 ⟨_, rfl, ?_⟩)
        rw [lnr_at hr, ← nI_0, nI_eq (by omega) (by omega)]
        refine brN hn ?_
        rw [nI_0]
        exact brIgt (by omega) (fun i hi e => absurd e (hx i hi)) (fun _ => ⟨k, k⟩)
      · have h : rI I t p M s hs im sc rf := h
        have h2 := h.keep ok rKp.th
        have k := k _ J h2 rKp.th.fr
        exact w246 hsh (r_heldI hsh ok h2 (fun _ => ⟨_, rfl, br1 (r_in rfl (by omega) (fun i hi e => absurd e (hx i hi)) (fun _ => ⟨_, rfl, br0 k⟩))⟩) (fun h0 => absurd h0 hz))
end VALUES
