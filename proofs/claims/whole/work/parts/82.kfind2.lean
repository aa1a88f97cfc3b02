/-! RECURRENCES: the class finds the shortest -/
theorem qA83 : ∀ k, qA0 83 k = none
  | 0 => rfl
  | 1 => rfl
  | 2 => rfl
  | k + 3 => rfl
def gE (g g' : qG) : Prop := g'.1 = g.1 ∧ (∀ a, a ≠ 83 → g'.2.1 a = g.2.1 a) ∧ g'.2.2 = g.2.2
theorem gE.refl (g : qG) : gE g g := ⟨rfl, fun _ _ => rfl, rfl⟩
theorem gE.trans {g g1 g2 : qG} (h : gE g g1) (h2 : gE g1 g2) : gE g g2 := ⟨by rw [h2.1, h.1], fun a ha => by rw [h2.2.1 a ha, h.2.1 a ha], by rw [h2.2.2, h.2.2]⟩
theorem qSh.ge {g g' : qG} (h : qSh g) (e : gE g g') : qSh g' := ⟨fun a t ht => by rw [e.1]; exact h.1 a t ht, fun a k b hb => by
  by_cases h83 : a = 83
  · rw [h83, qA83] at hb; cases hb
  · rw [e.2.1 a h83]; exact h.2 a k b hb⟩
theorem qSer.ge {g g' : qG} {a : Nat} (h : qSer g a) (ha : a ≠ 83) (e : gE g g') : qSer g' a := ⟨by rw [e.1]; exact h.1, by rw [e.2.1 a ha]; exact h.2.1, by rw [e.1]; exact h.2.2⟩
def aF (I I' : qI) : Prop := ∀ b, b ≠ 84 → b ≠ 85 → b ≠ 86 → I' b = I b
section KFIND2
variable {d : Nat} {J : qJ} {Q : qQ} {p M n x : Nat} {c : Nat → Int}
theorem k_find_l {g0 : qG} {I0 : qI} (hx8 : x < 83 ∨ 86 < x) (hxx : x + 1 < 83 ∨ 86 < x + 1) (hn : n ≤ 24) (ho : okS p n c)
    (kk : ∀ g I L C, gE g0 g → qSh g → (∃ bb bs, kRc g bb bs) → aF I0 I → gG p c n L C → (∀ M E, gG p c n M E → L ≤ M) → L ≤ n → kAr I 84 C → (∀ i, 0 ≤ C i ∧ C i < p) → Q (some (.int (nI L))) g I J) :
    ∀ (f N L m bb bs : Nat) (b : Int) (C B : Nat → Int) (g : qG) (I : qI) (v8 v9 v10 v11 : Value), N + f = n → gE g0 g → qSh g → qSer g x → kRc g bb bs → aF I0 I → kR I p M → kS I x n c → bmI p c N L m b C B → kAr I 84 C → kAr I bb B → (∀ i, 0 ≤ C i ∧ C i < p) → (∀ i, 0 ≤ B i ∧ B i < p) → (0 ≤ b ∧ b < p) → qev (d + 1) 69 (47, [.ref 83, .ref x, .ref 12, .int (iI p), .int (nI L), .int (nI m), .int (iI b), .int (nI N), v8, v9, v10, v11], [], g, I, J) Q
  | 0, N, L, m, bb, bs, b, C, B, g, I, v8, v9, v10, v11, hf, hE, hs, hx, hg, hF, hR, hS, hI, hC, hB, hCr, hBr, hb => by
    have hN : N = n := by omega
    subst hN
    refine e_next (pc' := 49) rfl rfl ?_
    refine e_next (pc' := 50) rfl rfl ?_
    refine e_getI (pc' := 53) rfl (Or.inl rfl) rfl hx.o ?_
    refine e_icmp (I x 1 ≤ nI N) (pc' := 56) rfl rfl e_d (fun hc => ?_) (fun hc => ?_)
    · refine e_next (pc' := 230) rfl rfl ?_
      exact e_iret rfl (kk g I L C hE hs ⟨bb, bs, hg⟩ hF hI.2.1 hI.2.2.1 hI.1 hC hCr)
    · rw [hS.1, nI_leI (by omega) (by omega)] at hc; omega
  | f + 1, N, L, m, bb, bs, b, C, B, g, I, v8, v9, v10, v11, hf, hE, hs, hx, hg, hF, hR, hS, hI, hC, hB, hCr, hBr, hb => by
    have hp := hR.2.2.1.2
    have hp2 := hR.2.2.1.two
    have hLN := hI.1
    have hm : 1 ≤ m ∧ m ≤ N + 1 := ⟨hI.2.2.2.1, by rcases hI.2.2.2.2 with h | ⟨_, h, _⟩ <;> omega⟩
    have hne : ¬ iI (p : Int) = 0 := by rw [iI_z0, iI_eq (by omega) (by omega)]; omega
    have hds : 0 ≤ dsc c C L N ∧ dsc c C L N ≤ (L + 1 : Nat) * (997 * 997) := sm_bd (fun i hi => ⟨Int.mul_nonneg (hCr i).1 (ho.2.1 _).1, Int.mul_le_mul (by have := hCr i; omega) (by have := ho.2.1 (N - i); omega) (ho.2.1 _).1 (by omega)⟩)
    have hd2 : dsc c C L N < 2147483648 := by
      have : ((L + 1 : Nat) : Int) * (997 * 997) ≤ 25 * (997 * 997) := Int.mul_le_mul_of_nonneg_right (by omega) (by omega)
      omega
    have hdr : 0 ≤ dsc c C L N % p ∧ dsc c C L N % p < p := ⟨Int.emod_nonneg _ (by omega), Int.emod_lt_of_pos _ (by omega)⟩
    refine e_next (pc' := 49) rfl rfl ?_
    refine e_next (pc' := 50) rfl rfl ?_
    refine e_getI (pc' := 53) rfl (Or.inl rfl) rfl hx.o ?_
    refine e_icmp (I x 1 ≤ nI N) (pc' := 56) rfl rfl e_d (fun hc => ?_) (fun hc => ?_)
    · rw [hS.1, nI_leI (by omega) (by omega)] at hc; omega
    · refine e_next (pc' := 57) rfl rfl ?_
      refine e_next (pc' := 58) rfl rfl ?_
      refine e_next (pc' := 60) rfl rfl ?_
      refine e_next (pc' := 62) rfl rfl ?_
      refine e_cpI (pc' := 65) rfl (e_sV (as := [_, _, _]) (fun _ => rfl) (Or.inl rfl) rfl (hs.o rfl) rfl rfl (Nat.le_of_ble_eq_true rfl) (Nat.le_of_ble_eq_true rfl) rfl) rfl rfl rfl (k_missed hs hx hg hS hn hC (by omega) hLN ⟨_, rfl, ?_⟩)
      refine e_next (pc' := 66) rfl rfl ?_
      refine e_irem (pc' := 67) rfl rfl hne ?_
      rw [show iI (dsc c C L N) - iI (dsc c C L N) / iI p * iI p = iI (dsc c C L N % p) from iI_rem (by omega) (by omega)]
      refine e_next (pc' := 69) (ls' := [_, _, _, _, _, _, _, _, _, _, _, _]) rfl rfl ?_
      refine e_next (pc' := 71) rfl rfl ?_
      refine e_if (¬ iI (dsc c C L N % p) = 0) (pc' := 74) rfl rfl e_d (fun hc => ?_) (fun hc => ?_)
      · rw [iI_z0, iI_eq (by omega) (by omega)] at hc
        have hnd : ¬ (p : Int) ∣ dsc c C L N := fun h => hc (Int.emod_eq_zero_of_dvd h)
        refine e_next (pc' := 82) rfl rfl ?_
        refine e_next (pc' := 83) rfl rfl ?_
        refine e_next (pc' := 85) rfl rfl ?_
        refine e_cpI (pc' := 88) rfl (e_sV (as := [_]) (fun _ => rfl) (Or.inl rfl) rfl (hs.o rfl) rfl rfl (Nat.le_of_ble_eq_true rfl) (Nat.le_of_ble_eq_true rfl) rfl) rfl rfl rfl (k_inv hs hR (v := b) (by omega) rfl ⟨_, rfl, ?_⟩)
        have hiv := iv_red (p := p) (by omega) (b % p)
        have hfb : 0 ≤ dsc c C L N % p * iv p (b % p) ∧ dsc c C L N % p * iv p (b % p) ≤ 997 * 997 := ⟨Int.mul_nonneg hdr.1 hiv.1, Int.mul_le_mul (by omega) (by omega) hiv.1 (by omega)⟩
        refine e_next (pc' := 89) rfl rfl ?_
        refine e_next (pc' := 90) rfl rfl ?_
        refine e_irem (pc' := 91) rfl rfl hne ?_
        rw [iI_mul, show iI (dsc c C L N % p * iv p (b % p)) - iI (dsc c C L N % p * iv p (b % p)) / iI p * iI p = iI (dsc c C L N % p * iv p (b % p) % p) from iI_rem (by omega) (by omega)]
        generalize hff : dsc c C L N % p * iv p (b % p) % p = ff
        have hfr : 0 ≤ ff ∧ ff < p := by rw [← hff]; exact ⟨Int.emod_nonneg _ (by omega), Int.emod_lt_of_pos _ (by omega)⟩
        have hb0 : b ≠ 0 := by
          rcases hI.2.2.2.2 with ⟨_, _, _, h⟩ | ⟨_, _, _, _, _, _, h⟩
          · omega
          · exact fun e => h (by rw [e]; exact Int.dvd_zero _)
        have hfd : (p : Int) ∣ ff * b - dsc c C L N := by
          rw [Int.emod_eq_of_lt hb.1 hb.2] at hff
          obtain ⟨u, hu⟩ := pr.ivu (p := p) hR.2.2.1 hb0 hb
          have w1 := Int.emod_add_mul_ediv (dsc c C L N) p
          have w2 := Int.emod_add_mul_ediv (dsc c C L N % p * iv p b) p
          rw [hff] at w2
          have w3 : b * iv p b = 1 + p * u := by omega
          refine ⟨dsc c C L N % p * u - dsc c C L N % p * iv p b / p * b - dsc c C L N / p, ?_⟩
          have w4 : ff = dsc c C L N % p * iv p b - p * (dsc c C L N % p * iv p b / p) := by omega
          rw [w4]
          generalize dsc c C L N / p = q2 at *
          generalize dsc c C L N % p = r at *
          rw [← w1]
          generalize r * iv p b / p = q1
          have w5 : r * iv p b * b = r * (1 + p * u) := by rw [← w3, Int.mul_assoc, Int.mul_comm (iv p b) b]
          rw [Int.sub_mul, w5, Int.mul_sub, Int.mul_sub, Int.mul_add, Int.mul_one, Int.mul_left_comm r (p : Int) u, Int.mul_assoc (p : Int) q1 b]
          omega
        have hBC : ∀ i, 0 ≤ bmC p C B ff m i ∧ bmC p C B ff m i < p := fun i => by
          unfold bmC
          split
          · exact hCr i
          · exact ⟨Int.emod_nonneg _ (by omega), Int.emod_lt_of_pos _ (by omega)⟩
        have hbb : bb ≠ 84 ∧ bs ≠ 84 ∧ bb ≠ bs ∧ (bb = 85 ∨ bb = 86) ∧ (bs = 85 ∨ bs = 86) := by have := hg.2.2.2.2.2.2; omega
        refine e_next (pc' := 93) (ls' := [_, _, _, _, _, _, _, _, _, _, _, _]) rfl rfl ?_
        refine e_iconst (pc' := 94) rfl rfl kc_2 ?_
        refine e_next (pc' := 96) rfl rfl ?_
        refine e_next (pc' := 97) rfl rfl ?_
        refine e_next (pc' := 99) rfl rfl ?_
        refine e_icmp (nI N < nI 2 * nI L) (pc' := 102) rfl rfl e_d (fun hc2 => ?_) (fun hc2 => ?_)
        · rw [pk_mul, nI_ltI (by omega) (by omega)] at hc2
          refine e_iconst (pc' := 107) rfl rfl kc_0 ?_
          refine e_next (pc' := 109) (ls' := [_, _, _, _, _, _, _, _, _, _, _, _]) rfl rfl ?_
          refine e_next (pc' := 111) rfl rfl ?_
          refine e_if (nI 0 = 0) (pc' := 114) rfl rfl (by decide +kernel) (fun _ => ?_) (fun h => absurd nI_0 h)
          refine e_next (pc' := 131) rfl rfl ?_
          refine e_next (pc' := 133) (ls' := [_, _, _, _, _, _, _, _, _, _, _, _]) rfl rfl ?_
          refine k_upd_l hs hg ⟨hp2, hp⟩ hB hCr hBr hfr (by omega) (fun I2 i2 f2 a2 => ?_) (max 25 m - m) m I (by omega) (Nat.le_refl _) (fun _ _ => rfl) (fun q hq => ?_)
          · refine e_iinc (pc' := 181) (ls' := [_, _, _, _, _, _, _, _, _, _, _, _]) (v := (nI 1)) rfl rfl kc_1 rfl rfl ?_
            refine e_next (pc' := 183) rfl rfl ?_
            refine e_if (nI 0 = 0) (pc' := 186) rfl rfl (by decide +kernel) (fun _ => ?_) (fun h => absurd nI_0 h)
            refine e_iinc (pc' := 225) (ls' := [_, _, _, _, _, _, _, _, _, _, _, _]) (v := (nI 1)) rfl rfl kc_1 rfl rfl ?_
            refine e_next (pc' := 47) rfl rfl ?_
            rw [nI_add, nI_add]
            exact k_find_l hx8 hxx hn ho kk f (N + 1) L (m + 1) bb bs b _ B g I2 _ _ _ _ (by omega) hE hs hx hg (fun q q1 q2 q3 => by rw [f2 q q1]; exact hF q q1 q2 q3) ⟨by rw [f2 12 (by omega)]; exact hR.1, by rw [f2 12 (by omega)]; exact hR.2.1, hR.2.2⟩ ⟨by rw [f2 x (by omega)]; exact hS.1, fun i hi => by rw [f2 (x + 1) (by omega)]; exact hS.2 i hi⟩ (bm_short (by omega) hI hCr hnd hfd (by omega)) a2 (fun q hq => by rw [f2 bb hbb.1]; exact hB q hq) hBC hBr hb
          · rw [hC q hq]
            dsimp only
            by_cases e : q < m
            · rw [if_pos e]; unfold bmC; rw [if_pos e]
            · rw [if_neg e]
        · rw [pk_mul, nI_ltI (by omega) (by omega)] at hc2
          refine e_iconst (pc' := 103) rfl rfl kc_1 ?_
          refine e_next (pc' := 107) rfl rfl ?_
          refine e_next (pc' := 109) (ls' := [_, _, _, _, _, _, _, _, _, _, _, _]) rfl rfl ?_
          refine e_next (pc' := 111) rfl rfl ?_
          refine e_if (nI 1 = 0) (pc' := 114) rfl rfl (by decide +kernel) (fun h => absurd h (by decide +kernel)) (fun _ => ?_)
          refine e_next (pc' := 115) rfl rfl ?_
          refine e_getR (pc' := 118) rfl rfl (hs.o rfl) hg.1 ?_
          refine e_iconst (pc' := 119) rfl rfl kc_0 ?_
          refine e_next (pc' := 120) rfl rfl ?_
          refine e_getR (pc' := 123) rfl rfl (hs.o rfl) hg.2.2.1 ?_
          refine e_iconst (pc' := 124) rfl rfl kc_0 ?_
          refine e_bipush (pc' := 126) rfl rfl kb_25 ?_
          refine e_copy 0 0 25 (pc' := 129) rfl rfl (Nat.le_of_ble_eq_true rfl) hg.2.2.2.1 hg.2.2.2.2.2.1 rfl rfl rfl (by omega) (by omega) (by decide) (by decide) ?_
          generalize hI1 : va_up I bs (va_cpy (I 84) (I bs) 0 0 25) = I1
          have o1 : ∀ q, q ≠ bs → I1 q = I q := fun q hq => by rw [← hI1, zv_a hq]
          have s1 : kAr I1 bs C := fun q hq => by rw [← hI1, zv_s, pk_cpy_in (by omega) (by omega), show 0 + (q - 0) = q by omega]; exact hC q hq
          refine e_next (pc' := 131) rfl rfl ?_
          refine e_next (pc' := 133) (ls' := [_, _, _, _, _, _, _, _, _, _, _, _]) rfl rfl ?_
          refine k_upd_l (I := I1) hs hg ⟨hp2, hp⟩ (fun q hq => by rw [o1 bb hbb.2.2.1]; exact hB q hq) hCr hBr hfr (by omega) (fun I2 i2 f2 a2 => ?_) (max 25 m - m) m I1 (by omega) (Nat.le_refl _) (fun _ _ => rfl) (fun q hq => ?_)
          · refine e_iinc (pc' := 181) (ls' := [_, _, _, _, _, _, _, _, _, _, _, _]) (v := (nI 1)) rfl rfl kc_1 rfl rfl ?_
            refine e_next (pc' := 183) rfl rfl ?_
            refine e_if (nI 1 = 0) (pc' := 186) rfl rfl (by decide +kernel) (fun h => absurd h (by decide +kernel)) (fun _ => ?_)
            refine e_next (pc' := 188) rfl rfl ?_
            refine e_iconst (pc' := 189) rfl rfl kc_1 ?_
            refine e_next (pc' := 190) rfl rfl ?_
            refine e_next (pc' := 192) rfl rfl ?_
            refine e_next (pc' := 193) rfl rfl ?_
            refine e_next (pc' := 195) (ls' := [_, _, _, _, _, _, _, _, _, _, _, _]) rfl rfl ?_
            refine e_next (pc' := 197) rfl rfl ?_
            refine e_next (pc' := 199) (ls' := [_, _, _, _, _, _, _, _, _, _, _, _]) rfl rfl ?_
            refine e_iconst (pc' := 200) rfl rfl kc_1 ?_
            refine e_next (pc' := 202) (ls' := [_, _, _, _, _, _, _, _, _, _, _, _]) rfl rfl ?_
            refine e_next (pc' := 203) rfl rfl ?_
            refine e_getR (pc' := 206) rfl rfl (hs.o rfl) hg.2.1 ?_
            refine e_next (pc' := 208) (ls' := [_, _, _, _, _, _, _, _, _, _, _, _]) rfl rfl ?_
            refine e_next (pc' := 209) rfl rfl ?_
            refine e_next (pc' := 210) rfl rfl ?_
            refine e_getR (pc' := 213) rfl rfl (hs.o rfl) hg.2.2.1 ?_
            refine e_putA (v := some bs) (pc' := 216) rfl rfl (hs.o rfl) ?_
            refine e_next (pc' := 217) rfl rfl ?_
            refine e_next (pc' := 219) rfl rfl ?_
            refine e_putA (v := some bb) (pc' := 222) rfl rfl (hs.o rfl) ?_
            refine e_iinc (pc' := 225) (ls' := [_, _, _, _, _, _, _, _, _, _, _, _]) (v := (nI 1)) rfl rfl kc_1 rfl rfl ?_
            refine e_next (pc' := 47) rfl rfl ?_
            have oo : ∀ q, q ≠ 84 → q ≠ bs → I2 q = I q := fun q q1 q2 => by rw [f2 q q1, o1 q q2]
            have hE2 : gE g (g.1, qw (qw g.2.1 83 1 (some bs)) 83 2 (some bb), g.2.2) := ⟨rfl, fun a ha => by show qw (qw g.2.1 83 1 (some bs)) 83 2 (some bb) a = _; rw [zu_a ha, zu_a ha], rfl⟩
            rw [nI_add, pk_sub (by omega)]
            refine k_find_l hx8 hxx hn ho kk f (N + 1) (N + 1 - L) 1 bs bb (dsc c C L N % p) _ C _ I2 _ _ _ _ (by omega) (hE.trans hE2) (hs.ge hE2) (hx.ge (by omega) hE2) ?_ (fun q q1 q2 q3 => by rw [oo q q1 (by omega)]; exact hF q q1 q2 q3) ⟨by rw [oo 12 (by omega) (by omega)]; exact hR.1, by rw [oo 12 (by omega) (by omega)]; exact hR.2.1, hR.2.2⟩ ⟨by rw [oo x (by omega) (by omega)]; exact hS.1, fun i hi => by rw [oo (x + 1) (by omega) (by omega)]; exact hS.2 i hi⟩ (bm_long (by omega) hI hCr hnd ⟨dsc c C L N / p, by have := Int.emod_add_mul_ediv (dsc c C L N) p; omega⟩ hfd (by omega)) a2 (fun q hq => by rw [f2 bs hbb.2.1]; exact s1 q hq) hBC hCr hdr
            obtain ⟨h1, h2, h3, h4, h5, h6, h7⟩ := hg
            refine ⟨?_, ?_, ?_, h4, h6, h5, by omega⟩
            · show qw (qw g.2.1 83 1 (some bs)) 83 2 (some bb) 83 0 = _
              rw [zu_k (by omega), zu_k (by omega)]; exact h1
            · show qw (qw g.2.1 83 1 (some bs)) 83 2 (some bb) 83 1 = _
              rw [zu_k (by omega), zu_s]
            · show qw (qw g.2.1 83 1 (some bs)) 83 2 (some bb) 83 2 = _
              rw [zu_s]
          · rw [o1 84 (by omega), hC q hq]
            dsimp only
            by_cases e : q < m
            · rw [if_pos e]; unfold bmC; rw [if_pos e]
            · rw [if_neg e]
      · rw [Decidable.not_not, iI_z0, iI_eq (by omega) (by omega)] at hc
        refine e_iinc (pc' := 77) (ls' := [_, _, _, _, _, _, _, _, _, _, _, _]) (v := (nI 1)) rfl rfl kc_1 rfl rfl ?_
        refine e_next (pc' := 222) rfl rfl ?_
        refine e_iinc (pc' := 225) (ls' := [_, _, _, _, _, _, _, _, _, _, _, _]) (v := (nI 1)) rfl rfl kc_1 rfl rfl ?_
        refine e_next (pc' := 47) rfl rfl ?_
        rw [nI_add, nI_add]
        exact k_find_l hx8 hxx hn ho kk f (N + 1) L (m + 1) bb bs b C B g I _ _ _ _ (by omega) hE hs hx hg hF hR hS (bm_same hI (Int.dvd_of_emod_eq_zero hc)) hC hB hCr hBr hb
end KFIND2
