/-! calls: solve, starts -/
section SOLVES
variable {d : Nat} {g : qG} {I I' : qI} {J : qJ} {Q : qQ} {t : List Nat} {p M n : Nat} {s s' : ST} {hs hs' : List ST} {im im' : Option ST} {sc : SC} {rf : RF} {x x1 x2 x3 x4 x5 x6 : Int32} {n0 n1 n2 n3 : Nat} {a0 a1 a2 a3 : Nat → Int} {f0 f1 f2 f3 : Sr}
theorem kI.cub (h : kI g I t p M s hs im sc rf) (f : ∀ b, (b < 13 ∨ 33 ≤ b) → I' b = I b) : kI g I' t p M s hs im sc rf ∧ kFr g g I I' := ⟨h.keep ⟨fun b hb => f b (by omega), by rw [f 4 (by omega)], by rw [f 4 (by omega)], by rw [f 4 (by omega)], by rw [f 8 (by omega)]⟩, kFr.same (fun b hb => f b (by omega))⟩
theorem k_gatA (ok : okW p M s hs im sc) (h : kI g I t p M s hs im sc rf) (e0 : gS s M x1 = f0) (e1 : gS s M x2 = f1) (e2 : gS s M x3 = f2) (e3 : gS s M x4 = f3) (k1 : p ≠ 0 → gV4 s x1 x2 x3 x4 → ∀ I', kR I' p M → kS I' 25 f0.1 f0.2 → kS I' 27 f1.1 f1.2 → kS I' 29 f2.1 f2.2 → kS I' 31 f3.1 f3.2 → (∀ b, (b < 25 ∨ 32 < b) → I' b = I b) → Q (some (.int (nI 1))) g I' J) (k0 : ¬ (p ≠ 0 ∧ gV4 s x1 x2 x3 x4) → ∀ I', (∀ b, (b < 25 ∨ 32 < b) → I' b = I b) → Q (some (.int (nI 0))) g I' J) : qC (d + 3) 143 [.ref 4, .int x1, .int x2, .int x3, .int x4] g I J Q := by
  subst e0 e1 e2 e3
  by_cases hp : p = 0
  · exact w143 h.1.1 (h.2.2.2.2.1.tt (fun _ => k0 (fun h => h.1 hp) I (fun _ _ => rfl)) (fun h0 => absurd hp h0))
  · exact k_gat ok hp h (fun hv I1 _ r1 s1 s2 s3 s4 f1 => k1 hp hv I1 r1 s1 s2 s3 s4 f1) (fun hn I1 _ f1 => k0 (fun h => hn h.2) I1 f1)
theorem r_layA (ok : okW p M s hs im sc) (hsh : qSh g) (h : rI I t p M s hs im sc rf) (e0 : gS s M x1 = f0) (e1 : gS s M x2 = f1) (e2 : gS s M x3 = f2) (e3 : gS s M x4 = f3) (k1 : p ≠ 0 → gV4 s x1 x2 x3 x4 → ∀ I', rI I' t p M s hs im sc rf → rS I' 0 f0.1 f0.2 → rS I' 1 f1.1 f1.2 → rS I' 2 f2.1 f2.2 → rS I' 3 f3.1 f3.2 → rKp I I' → Q (some (.int (nI 1))) g I' J) (k0 : ¬ (p ≠ 0 ∧ gV4 s x1 x2 x3 x4) → ∀ I', rI I' t p M s hs im sc rf → rKp I I' → Q (some (.int (nI 0))) g I' J) : qC (d + 4) 247 [.ref 105, .int x1, .int x2, .int x3, .int x4] g I J Q := by
  subst e0 e1 e2 e3
  exact r_lay ok hsh h k1 (fun hn I1 h1 f1 => k0 (fun h => hn.elim (fun h0 => h.1 h0) (fun h0 => h0 h.2)) I1 h1 f1)
theorem r_sol_l (hsh : qSh g) (hR : rR I p M) (h0 : rS I 0 n0 a0) (h1 : rS I 1 n1 a1) (h2 : rS I 2 n2 a2) (h3 : rS I 3 n3 a3) (o0 : okS p n0 a0) (o1 : okS p n1 a1) (o2 : okS p n2 a2) (o3 : okS p n3 a3) {L : Nat} (hL : L ≤ 24) {hd st : Int} (hhd : 0 ≤ hd ∧ hd < p) (hst : 0 ≤ st ∧ st < p) {i6 : Nat} (h6 : i6 < L) (k : ∀ I', rF (fun q => 40 ≤ q) I I' → Q (some (.int (iI (ppl (cubF p a0 a1 a2 a3 st) hd (L - 1) i6)))) g I' J) : ∀ f i I', i + f = i6 → rS I' 40 L (ppl (cubF p a0 a1 a2 a3 st) hd i) → rF (fun q => 40 ≤ q) I I' → qev (d + 4) 252 (134, [.ref 105, .int x1, .int x2, .int x3, .int x4, .int x5, .int (nI i6), .int (nI L), .int (iI st), .int (nI (i + 1))], [], g, I', J) Q
  | 0, i, I', hi, hA, hF => by
    have hp := hR.p2
    have hFr : ∀ k y, 0 ≤ cubF p a0 a1 a2 a3 st k y ∧ cubF p a0 a1 a2 a3 st k y < p := fun k y => ⟨Int.emod_nonneg _ (by omega), Int.emod_lt_of_pos _ (by omega)⟩
    have e : i = i6 := by omega
    subst e
    have oY := ppl_ok (p := p) (n := L) (F := cubF p a0 a1 a2 a3 st) (h := hd) hhd hFr hL (k := i) (by omega)
    refine w252_134 hsh (brT (by rw [nI_ltI (by omega) (by omega)]; omega) (r_c' hsh (by omega) hA oY (i := i) (by omega) rfl ⟨_, rfl, ?_⟩))
    rw [← ppl_lo i (L - 1) i (by omega) (Nat.le_refl _)]
    exact k I' hF
  | f + 1, i, I', hi, hA, hF => by
    have hp := hR.p2
    have hFr : ∀ k y, 0 ≤ cubF p a0 a1 a2 a3 st k y ∧ cubF p a0 a1 a2 a3 st k y < p := fun k y => ⟨Int.emod_nonneg _ (by omega), Int.emod_lt_of_pos _ (by omega)⟩
    have oY := ppl_ok (p := p) (n := L) (F := cubF p a0 a1 a2 a3 st) (h := hd) hhd hFr hL (k := i) (by omega)
    refine w252_134 hsh (brN (by rw [nI_ltI (by omega) (by omega)]; omega) (r_miss hsh (hR.keep hF) (h0.keep hF (by omega) o0.1) (h1.keep hF (by omega) o1.1) (h2.keep hF (by omega) o2.1) (h3.keep hF (by omega) o3.1) o0 o1 o2 o3 hA oY (j := i + 1) (by omega) (fun I2 f2 => ⟨_, rfl, ?_⟩)))
    have b1 : 0 ≤ cub a0 a1 a2 a3 (ppl (cubF p a0 a1 a2 a3 st) hd i) (i + 1) % p ∧ cub a0 a1 a2 a3 (ppl (cubF p a0 a1 a2 a3 st) hd i) (i + 1) % p < p := ⟨Int.emod_nonneg _ (by omega), Int.emod_lt_of_pos _ (by omega)⟩
    have b4 := pb b1 hst hp.2
    refine r_by hsh ((hR.keep hF).keep f2) (z := -(cub a0 a1 a2 a3 (ppl (cubF p a0 a1 a2 a3 st) hd i) (i + 1) % p) * st) (by rw [Int.neg_mul]; omega) (by rw [iI_l (by omega), iI_l (by omega), iL_neg, iL_mul]) ⟨_, rfl, r_set hsh (r := 40) (by omega) (i := i + 1) (by omega) rfl ⟨rfl, ?_⟩⟩
    rw [nI_add]
    exact r_sol_l hsh hR h0 h1 h2 h3 o0 o1 o2 o3 hL hhd hst h6 k f (i + 1) _ (by omega) (rS_ppl (hA.keep f2 (by omega) hL)) (hF.trans ((f2.mono (fun q h => by omega)).trans ((rF_set (r := 40) (by omega)).mono (fun q h => by omega))))
theorem mn4 {a b c e : Nat} (h1 : a ≤ M) : min (min a b) (min c e) = min (min (min (min M a) b) c) e := by omega
theorem c_solve (ok : okW p M s hs im sc) : bOK 121 252 [.int x1, .int x2, .int x3, .int x4, .int x5, .int x6] (t, p, M, s, hs, im, sc, rf) := by
  obtain ⟨f0, e0⟩ : ∃ f, gS s M x1 = f := ⟨_, rfl⟩
  obtain ⟨f1, e1⟩ : ∃ f, gS s M x2 = f := ⟨_, rfl⟩
  obtain ⟨f2, e2⟩ : ∃ f, gS s M x3 = f := ⟨_, rfl⟩
  obtain ⟨f3, e3⟩ : ∃ f, gS s M x4 = f := ⟨_, rfl⟩
  have hpl := ok.p_lt
  by_cases hA : p ≠ 0 ∧ gV4 s x1 x2 x3 x4
  · obtain ⟨hp, hv⟩ := hA
    have o0 : okR p M f0 := by rw [← e0]; exact gS_ok ok hp hv.1
    have o1 : okR p M f1 := by rw [← e1]; exact gS_ok ok hp hv.2.1
    have o2 : okR p M f2 := by rw [← e2]; exact gS_ok ok hp hv.2.2.1
    have o3 : okR p M f3 := by rw [← e3]; exact gS_ok ok hp hv.2.2.2
    have hM := (ok.ring hp).2.1
    have K : ∀ (d : Nat) (g : qG) (I : qI) (J : qJ) (Q : qQ), kI g I t p M s hs im sc rf → (∀ I', kR I' p M → kS I' 25 f0.1 f0.2 → kS I' 27 f1.1 f1.2 → kS I' 29 f2.1 f2.2 → kS I' 31 f3.1 f3.2 → (∀ b, (b < 25 ∨ 32 < b) → I' b = I b) → ((x5 < 0 → Q (some (.int (-1))) g I' J) ∧ (¬ x5 < 0 → ((x5 < nI p → qC (d + 89) 27 [.ref 12, .int x5] g I' J (fun v _ _ _ => ∃ r2, v = some (.int r2) ∧ ((r2 = 0 → Q (some (.int (-1))) g I' J) ∧ (¬ r2 = 0 → qC (d + 89) 26 [.ref 12] g I' J (fun v _ _ _ => ∃ r3, v = some (.int r3) ∧ ((x6 = (-1) → Q (some (.int r3)) g I' J) ∧ (¬ x6 = (-1) → ((x6 < 0 → Q (some (.int (-1))) g I' J) ∧ (¬ x6 < 0 → ((x6 < r3 → qC (d + 89) 28 [.ref 12, .int x5, .int r3] g I' J (fun v _ I2 _ => ∃ r4, v = some (va_rf r4) ∧ ∃ b1, r4 = some b1 ∧ qSer g b1 ∧ ∃ k1, x6 = nI k1 ∧ k1 < 24 ∧ Q (some (.int (I2 (b1 + 1) k1))) g I2 J)) ∧ (¬ x6 < r3 → Q (some (.int (-1))) g I' J))))))))))) ∧ (¬ x5 < nI p → Q (some (.int (-1))) g I' J))))) → qC (d + 90) 121 [.ref 4, .int x1, .int x2, .int x3, .int x4, .int x5, .int x6] g I J Q := by
      intro d g I J Q h k
      refine w121 h.1.1 (k_gatA ok h e0 e1 e2 e3 (fun _ _ I1 r1 s0 s1 s2 s3 f => ⟨_, rfl, br1 ?_⟩) (fun hn => absurd ⟨hp, hv⟩ hn))
      rw [r1.1, ← nI_iI]
      exact k I1 r1 s0 s1 s2 s3 f
    by_cases h5 : ∃ y : Nat, y < p ∧ x5 = nI y ∧ isSt p (f0.2 0) (f1.2 0) (f2.2 0) (f3.2 0) y
    · obtain ⟨y, hy, rfl, hst⟩ := h5
      have hun := iv_red (p := p) (by omega) (slo (f1.2 0) (f2.2 0) (f3.2 0) y % p)
      have bsl : 0 ≤ slo (f1.2 0) (f2.2 0) (f3.2 0) y % p ∧ slo (f1.2 0) (f2.2 0) (f3.2 0) y % p < p := ⟨Int.emod_nonneg _ (by omega), Int.emod_lt_of_pos _ (by omega)⟩
      obtain ⟨L, eL⟩ : ∃ L, min (min (min (min M f0.1) f1.1) f2.1) f3.1 = L := ⟨_, rfl⟩
      have q0 := o0.1
      have q1 := o1.1
      have q2 := o2.1
      have q3 := o3.1
      have z0 := o0.2.1
      have z1 := o1.2.1
      have z2 := o2.2.1
      have z3 := o3.2.1
      have hL : L ≤ f0.1 ∧ L ≤ f1.1 ∧ L ≤ f2.1 ∧ L ≤ f3.1 ∧ L ≤ M ∧ 1 ≤ L := by omega
      have K2 : ∀ (d : Nat) (g : qG) (I : qI) (J : qJ) (Q : qQ), kI g I t p M s hs im sc rf → (∀ I', kR I' p M → kS I' 25 f0.1 f0.2 → kS I' 27 f1.1 f1.2 → kS I' 29 f2.1 f2.2 → kS I' 31 f3.1 f3.2 → (∀ b, (b < 25 ∨ 32 < b) → I' b = I b) → ((x6 = (-1) → Q (some (.int (nI L))) g I' J) ∧ (¬ x6 = (-1) → ((x6 < 0 → Q (some (.int (-1))) g I' J) ∧ (¬ x6 < 0 → ((x6 < nI L → qC (d + 89) 28 [.ref 12, .int (nI y), .int (nI L)] g I' J (fun v _ I2 _ => ∃ r4, v = some (va_rf r4) ∧ ∃ b1, r4 = some b1 ∧ qSer g b1 ∧ ∃ k1, x6 = nI k1 ∧ k1 < 24 ∧ Q (some (.int (I2 (b1 + 1) k1))) g I2 J)) ∧ (¬ x6 < nI L → Q (some (.int (-1))) g I' J))))))) → qC (d + 90) 121 [.ref 4, .int x1, .int x2, .int x3, .int x4, .int (nI y), .int x6] g I J Q := by
        intro d g I J Q h k
        refine K d g I J Q h (fun I1 r1 s0 s1 s2 s3 f => brN (nI_pos (by omega)) (brT (by rw [nI_ltI (by omega) (by omega)]; exact hy) (k_starts h.1.1 r1 s0 s1 s2 s3 o0.2.2 o1.2.2 o2.2.2 o3.2.2 ⟨q0, q1, q2, q3⟩ (y := y) (by omega) (nI_iI y) (fun _ => ⟨_, rfl, br1 (k_cubLen h.1.1 r1 s0.1 s1.1 s2.1 s3.1 (by omega) ⟨_, rfl, ?_⟩)⟩) (fun hn => absurd hst hn))))
        rw [eL]
        exact k I1 r1 s0 s1 s2 s3 f
      have R2 : ∀ (d : Nat) (g : qG) (I : qI) (J : qJ) (Q : qQ), qSh g → rI I t p M s hs im sc rf → (∀ I', rI I' t p M s hs im sc rf → rR I' p M → rS I' 0 f0.1 f0.2 → rS I' 1 f1.1 f1.2 → rS I' 2 f2.1 f2.2 → rS I' 3 f3.1 f3.2 → rFw I I' → ((x6 = (-1) → Q (some (.int (nI L))) g I' J) ∧ (¬ x6 = (-1) → qC (d + 89) 147 [.long (Int32.toInt64 x6), .long (lN 0), .long (lN (L - 1))] g I' J (fun v _ _ _ => ∃ r11, v = some (.int r11) ∧ ((r11 = 0 → Q (some (.int (-1))) g I' J) ∧ (¬ r11 = 0 → qC (d + 89) 249 [.ref 105, .int (nI y)] g I' J (fun v _ _ _ => ∃ r12, v = some (.int r12) ∧ qC (d + 89) 179 [.ref 105, .int r12] g I' J (fun v _ _ _ => ∃ r13, v = some (.int r13) ∧ qC (d + 89) 193 [.ref 105, .int (nI 40), .int (nI L)] g I' J (fun v _ I2 _ => v = none ∧ qC (d + 89) 183 [.ref 105, .int (nI 40), .int (nI 0), .int (nI y)] g I2 J (fun v _ I3 _ => v = none ∧ qev (d + 90) 252 (134, [.ref 105, .int x1, .int x2, .int x3, .int x4, .int (nI y), .int x6, .int (nI L), .int r13, .int (nI 1)], [], g, I3, J) Q)))))))))) → qC (d + 90) 252 [.ref 105, .int x1, .int x2, .int x3, .int x4, .int (nI y), .int x6] g I J Q := by
        intro d g I J Q hsh h k
        have h2 := h.keep ok rKp.th
        refine w252 hsh (r_layA ok hsh h2 e0 e1 e2 e3 (fun _ _ I1 h1 s0 s1 s2 s3 f => ⟨_, rfl, br1 ?_⟩) (fun hn => absurd ⟨hp, hv⟩ hn))
        have r1 := h1.2.1.R ok hp
        have F := (rKp.trans rKp.th f).fr
        have k := k I1 h1 r1 s0 s1 s2 s3 F
        rw [r1.1, ← nI_iI, pk_sub (by omega), nI_lN (k := p - 1) (by omega)]
        refine r_in rfl (by omega) (fun _ _ _ => ⟨_, rfl, br1 ?_⟩) (fun h0 => absurd rfl (h0 y (by omega)))
        rw [nI_iI y]
        refine r_isSt hsh r1 s0 s1 s2 s3 o0.2.2 o1.2.2 o2.2.2 o3.2.2 (y := y) (by omega) (fun _ => ⟨_, rfl, br1 ?_⟩) (fun hn => absurd hst hn)
        refine r_len hsh (by omega) s0.1 ⟨_, rfl, r_len hsh (by omega) s1.1 ⟨_, rfl, r_least (by omega) (by omega) ⟨_, rfl, r_len hsh (by omega) s2.1 ⟨_, rfl, r_len hsh (by omega) s3.1 ⟨_, rfl, r_least (by omega) (by omega) ⟨_, rfl, r_least (by omega) (by omega) ⟨_, rfl, ?_⟩⟩⟩⟩⟩⟩⟩
        rw [mn4 z0, eL, pk_sub (by omega), nI_lN (by omega), ← nI_iI y]
        exact k
      by_cases h1 : x6 = -1
      · refine ⟨nI L, (t, p, M, s, hs, im, sc, rf), ok, fun d g I J Q h k => ?_, fun d g I J Q hsh h k => ?_⟩
        · have h : kI g I t p M s hs im sc rf := h
          refine K2 d g I J Q h (fun I1 r1 s0 s1 s2 s3 f => brT h1 ?_)
          have z := h.cub (I' := I1) (fun b hb => f b (by omega))
          exact k g I1 J z.1 z.2
        · exact R2 d g I J Q hsh h (fun I1 h2 r1 s0 s1 s2 s3 f => brT h1 (k I1 J h2 f))
      · rcases cls x6 L (by omega) with ⟨i, hi, rfl⟩ | hx
        · refine ⟨iI (sCub p L f0.2 f1.2 f2.2 f3.2 y i), (t, p, M, s, hs, im, sc, rf), ok, fun d g I J Q h k => ?_, fun d g I J Q hsh h k => ?_⟩
          · have h : kI g I t p M s hs im sc rf := h
            refine K2 d g I J Q h (fun I1 r1 s0 s1 s2 s3 f => brN h1 (brN (nI_pos (by omega)) (brT (by rw [nI_ltI (by omega) (by omega)]; exact hi) ?_)))
            rw [nI_iI y]
            refine k_cubRoot h.1.1 r1 s0 s1 s2 s3 o0.2.2 o1.2.2 o2.2.2 o3.2.2 hL (by omega) hst (fun I2 s18 f2 => ⟨_, rfl, 18, rfl, h.1.1.ser (a := 18) rfl (by omega), i, rfl, by omega, ?_⟩)
            rw [s18.2 i hi]
            have z := h.cub (I' := I2) (fun b hb => by rw [f2 b (by omega) (by omega) (by omega) (by omega) (by omega) (by omega) (by omega), f b (by omega)])
            exact k g I2 J z.1 z.2
          · refine R2 d g I J Q hsh h (fun I1 h2 r1 s0 s1 s2 s3 f => brN h1 (r_in rfl (by omega) (fun _ _ _ => ⟨_, rfl, br1 ?_⟩) (fun h0 => absurd rfl (h0 i (by omega)))))
            rw [nI_iI y]
            refine r_slope hsh r1 s1 s2 s3 o1.2.2 o2.2.2 o3.2.2 (by omega) ⟨_, rfl, r_inv hsh r1 bsl ⟨_, rfl, r_blank hsh (to := 40) (by omega) (L := L) (by omega) (fun I2 s4 f2 => ⟨rfl, r_set hsh (r := 40) (by omega) (i := 0) (by omega) rfl ⟨rfl, ?_⟩⟩)⟩⟩
            refine r_sol_l (d := d + 86) hsh r1 s0 s1 s2 s3 o0.2.2 o1.2.2 o2.2.2 o3.2.2 (L := L) (by omega) (hd := y) (by omega) hun hi (fun I3 f3 => ?_) i 0 _ (by omega) ?_ ((f2.mono (fun q h => by omega)).trans ((rF_set (r := 40) (by omega)).mono (fun q h => by omega)))
            · exact k I3 J (h2.keep ok f3.kp) (fun b hb => by rw [f3.kp.fr b hb, f b hb])
            · have h9 := rS_set (k := 0) (v := (y : Int)) s4
              exact h9
        · refine ⟨-1, (t, p, M, s, hs, im, sc, rf), ok, fun d g I J Q h k => ?_, fun d g I J Q hsh h k => ?_⟩
          · have h : kI g I t p M s hs im sc rf := h
            refine K2 d g I J Q h (fun I1 r1 s0 s1 s2 s3 f => brN h1 ?_)
            have z := h.cub (I' := I1) (fun b hb => f b (by omega))
            have k := k g I1 J z.1 z.2
            exact brI (by omega) (fun i hi e => absurd e (hx i hi)) (fun _ => ⟨k, k⟩)
          · exact R2 d g I J Q hsh h (fun I1 h2 r1 s0 s1 s2 s3 f => brN h1 (r_in rfl (by omega) (fun i hi e => absurd e (hx i (by omega))) (fun _ => ⟨_, rfl, br0 (k I1 J h2 f)⟩)))
    · refine ⟨-1, (t, p, M, s, hs, im, sc, rf), ok, fun d g I J Q h k => ?_, fun d g I J Q hsh h k => ?_⟩
      · have h : kI g I t p M s hs im sc rf := h
        refine K d g I J Q h (fun I1 r1 s0 s1 s2 s3 f => ?_)
        have z := h.cub (I' := I1) (fun b hb => f b (by omega))
        have k := k g I1 J z.1 z.2
        refine brI (by omega) (fun y hy e => ?_) (fun _ => ⟨k, k⟩)
        rw [e]
        exact k_starts h.1.1 r1 s0 s1 s2 s3 o0.2.2 o1.2.2 o2.2.2 o3.2.2 ⟨o0.1, o1.1, o2.1, o3.1⟩ (y := y) (by omega) (nI_iI y) (fun hst => absurd ⟨y, hy, e, hst⟩ h5) (fun _ => ⟨_, rfl, br0 k⟩)
      · have h2 := rI.keep h ok rKp.th
        refine w252 hsh (r_layA ok hsh h2 e0 e1 e2 e3 (fun _ _ I1 h1 s0 s1 s2 s3 f => ⟨_, rfl, br1 ?_⟩) (fun hn => absurd ⟨hp, hv⟩ hn))
        have r1 := h1.2.1.R ok hp
        have k := k I1 J h1 (rKp.trans rKp.th f).fr
        rw [r1.1, ← nI_iI, pk_sub (by omega), nI_lN (by omega)]
        refine r_in rfl (by omega) (fun y hy e => ⟨_, rfl, br1 ?_⟩) (fun _ => ⟨_, rfl, br0 k⟩)
        rw [e, nI_iI y]
        exact r_isSt hsh r1 s0 s1 s2 s3 o0.2.2 o1.2.2 o2.2.2 o3.2.2 (y := y) (by omega) (fun hst => absurd ⟨y, by omega, e, hst⟩ h5) (fun _ => ⟨_, rfl, br0 k⟩)
  · refine ⟨-1, (t, p, M, s, hs, im, sc, rf), ok, fun d g I J Q h k => ?_, fun d g I J Q hsh h k => ?_⟩
    · have h : kI g I t p M s hs im sc rf := h
      refine w121 h.1.1 (k_gatA ok h e0 e1 e2 e3 (fun hp hv => absurd ⟨hp, hv⟩ hA) (fun _ I1 f => ⟨_, rfl, br0 ?_⟩))
      have z := h.cub (I' := I1) (fun b hb => f b (by omega))
      exact k g I1 J z.1 z.2
    · have h2 := rI.keep h ok rKp.th
      exact w252 hsh (r_layA ok hsh h2 e0 e1 e2 e3 (fun hp hv => absurd ⟨hp, hv⟩ hA) (fun _ I1 h1 f => ⟨_, rfl, br0 (k I1 J h1 (rKp.trans rKp.th f).fr)⟩))
noncomputable def stF (P : Nat → Prop) : Nat → Int32 → Int32 → Int32 × Int32
  | 0, n, l => (n, l)
  | v + 1, n, l => @ite _ (P v) (Classical.propDecidable _) (stF P v (n + nI 1) (nI v)) (stF P v n l)
theorem k_sts_l (hsh : qSh g) (hR : kR I p M) (s0 : kS I 25 f0.1 f0.2) (s1 : kS I 27 f1.1 f1.2) (s2 : kS I 29 f2.1 f2.2) (s3 : kS I 31 f3.1 f3.2) (o0 : okR p M f0) (o1 : okR p M f1) (o2 : okR p M f2) (o3 : okR p M f3) : ∀ (v : Nat) (n l w : Int32), v ≤ p → w = iI ((v : Int) - 1) → ((x5 = 0 → Q (some (.int (stF (fun y => isSt p (f0.2 0) (f1.2 0) (f2.2 0) (f3.2 0) y) v n l).1)) g I J) ∧ (¬ x5 = 0 → Q (some (.int (stF (fun y => isSt p (f0.2 0) (f1.2 0) (f2.2 0) (f3.2 0) y) v n l).2)) g I J)) → qev (d + 1) 122 (43, [.ref 4, .int x1, .int x2, .int x3, .int x4, .int x5, .int n, .int l, .int w], [], g, I, J) Q
  | 0, n, l, w, hv, hw, k => by
    subst hw
    exact w122_43 hsh (brT (by rw [iI_z0, iI_lt (by omega) (by omega)]; omega) k)
  | v + 1, n, l, w, hv, hw, k => by
    subst hw
    have hp := hR.p2
    rw [show ((v + 1 : Nat) : Int) - 1 = v by omega]
    refine w122_43 hsh (brN (by rw [iI_z0, iI_lt (by omega) (by omega)]; omega) (k_starts hsh hR s0 s1 s2 s3 o0.2.2 o1.2.2 o2.2.2 o3.2.2 ⟨o0.1, o1.1, o2.1, o3.1⟩ (y := v) (by omega) rfl (fun hst => ⟨_, rfl, br1 ?_⟩) (fun hst => ⟨_, rfl, br0 ?_⟩)))
    · rw [stF, if_pos hst] at k
      rw [← nI_iI v]
      exact k_sts_l hsh hR s0 s1 s2 s3 o0 o1 o2 o3 v _ _ _ (by omega) (by rw [nI_iI, iI_zm1, iI_add, Int.sub_eq_add_neg]) k
    · rw [stF, if_neg hst] at k
      exact k_sts_l hsh hR s0 s1 s2 s3 o0 o1 o2 o3 v _ _ _ (by omega) (by rw [iI_zm1, iI_add, Int.sub_eq_add_neg]) k
theorem r_sts_l (hsh : qSh g) (hR : rR I p M) (s0 : rS I 0 f0.1 f0.2) (s1 : rS I 1 f1.1 f1.2) (s2 : rS I 2 f2.1 f2.2) (s3 : rS I 3 f3.1 f3.2) (o0 : okR p M f0) (o1 : okR p M f1) (o2 : okR p M f2) (o3 : okR p M f3) : ∀ (v : Nat) (n l w : Int32), v ≤ p → w = iI ((v : Int) - 1) → ((x5 = 0 → Q (some (.int (stF (fun y => isSt p (f0.2 0) (f1.2 0) (f2.2 0) (f3.2 0) y) v n l).1)) g I J) ∧ (¬ x5 = 0 → Q (some (.int (stF (fun y => isSt p (f0.2 0) (f1.2 0) (f2.2 0) (f3.2 0) y) v n l).2)) g I J)) → qev (d + 3) 253 (46, [.ref 105, .int x1, .int x2, .int x3, .int x4, .int x5, .int n, .int l, .int w], [], g, I, J) Q
  | 0, n, l, w, hv, hw, k => by
    subst hw
    exact w253_46 hsh (brT (by rw [iI_z0, iI_lt (by omega) (by omega)]; omega) k)
  | v + 1, n, l, w, hv, hw, k => by
    subst hw
    have hp := hR.p2
    rw [show ((v + 1 : Nat) : Int) - 1 = v by omega]
    refine w253_46 hsh (brN (by rw [iI_z0, iI_lt (by omega) (by omega)]; omega) (r_isSt hsh hR s0 s1 s2 s3 o0.2.2 o1.2.2 o2.2.2 o3.2.2 (y := v) (by omega) (fun hst => ⟨_, rfl, br1 ?_⟩) (fun hst => ⟨_, rfl, br0 ?_⟩)))
    · rw [stF, if_pos hst] at k
      rw [← nI_iI v]
      exact r_sts_l hsh hR s0 s1 s2 s3 o0 o1 o2 o3 v _ _ _ (by omega) (by rw [nI_iI, iI_zm1, iI_add, Int.sub_eq_add_neg]) k
    · rw [stF, if_neg hst] at k
      exact r_sts_l hsh hR s0 s1 s2 s3 o0 o1 o2 o3 v _ _ _ (by omega) (by rw [iI_zm1, iI_add, Int.sub_eq_add_neg]) k
theorem c_starts (ok : okW p M s hs im sc) : bOK 122 253 [.int x1, .int x2, .int x3, .int x4, .int x5] (t, p, M, s, hs, im, sc, rf) := by
  obtain ⟨f0, e0⟩ : ∃ f, gS s M x1 = f := ⟨_, rfl⟩
  obtain ⟨f1, e1⟩ : ∃ f, gS s M x2 = f := ⟨_, rfl⟩
  obtain ⟨f2, e2⟩ : ∃ f, gS s M x3 = f := ⟨_, rfl⟩
  obtain ⟨f3, e3⟩ : ∃ f, gS s M x4 = f := ⟨_, rfl⟩
  have hpl := ok.p_lt
  rcases cls x5 2 (by omega) with ⟨u, hu, e5⟩ | hx
  · by_cases hA : p ≠ 0 ∧ gV4 s x1 x2 x3 x4
    · obtain ⟨hp, hv⟩ := hA
      have o0 : okR p M f0 := by rw [← e0]; exact gS_ok ok hp hv.1
      have o1 : okR p M f1 := by rw [← e1]; exact gS_ok ok hp hv.2.1
      have o2 : okR p M f2 := by rw [← e2]; exact gS_ok ok hp hv.2.2.1
      have o3 : okR p M f3 := by rw [← e3]; exact gS_ok ok hp hv.2.2.2
      have A : ∀ (B : Int32 → Prop), (B (if x5 = 0 then (stF (fun y => isSt p (f0.2 0) (f1.2 0) (f2.2 0) (f3.2 0) y) p (nI 0) (-1)).1 else (stF (fun y => isSt p (f0.2 0) (f1.2 0) (f2.2 0) (f3.2 0) y) p (nI 0) (-1)).2)) → (x5 = 0 → B (stF (fun y => isSt p (f0.2 0) (f1.2 0) (f2.2 0) (f3.2 0) y) p (nI 0) (-1)).1) ∧ (¬ x5 = 0 → B (stF (fun y => isSt p (f0.2 0) (f1.2 0) (f2.2 0) (f3.2 0) y) p (nI 0) (-1)).2) := fun B hB => ⟨fun h => by rw [if_pos h] at hB; exact hB, fun h => by rw [if_neg h] at hB; exact hB⟩
      refine ⟨if x5 = 0 then (stF (fun y => isSt p (f0.2 0) (f1.2 0) (f2.2 0) (f3.2 0) y) p (nI 0) (-1)).1 else (stF (fun y => isSt p (f0.2 0) (f1.2 0) (f2.2 0) (f3.2 0) y) p (nI 0) (-1)).2, (t, p, M, s, hs, im, sc, rf), ok, fun d g I J Q h k => ?_, fun d g I J Q hsh h k => ?_⟩
      · have h : kI g I t p M s hs im sc rf := h
        refine w122 h.1.1 (brIgt (by omega) (fun _ _ _ => k_gatA ok h e0 e1 e2 e3 (fun _ _ I1 r1 s0 s1 s2 s3 f => ⟨_, rfl, br1 ?_⟩) (fun hn => absurd ⟨hp, hv⟩ hn)) (fun h0 => absurd e5 (h0 u (by omega))))
        have z := h.cub (I' := I1) (fun b hb => f b (by omega))
        exact k_sts_l h.1.1 r1 s0 s1 s2 s3 o0 o1 o2 o3 p _ _ _ (Nat.le_refl _) (by rw [r1.1, nI_iI, iI_sub]; rfl) (A (fun v => Q (some (.int v)) g I1 J) (k g I1 J z.1 z.2))
      · have h2 := rI.keep h ok rKp.th
        refine w253 hsh (r_in rfl (by omega) (fun _ _ _ => ⟨_, rfl, br1 (r_layA ok hsh h2 e0 e1 e2 e3 (fun _ _ I1 h1 s0 s1 s2 s3 f => ⟨_, rfl, br1 ?_⟩) (fun hn => absurd ⟨hp, hv⟩ hn))⟩) (fun h0 => absurd e5 (h0 u (by omega))))
        have r1 := h1.2.1.R ok hp
        exact r_sts_l (d := d + 87) hsh r1 s0 s1 s2 s3 o0 o1 o2 o3 p _ _ _ (Nat.le_refl _) (by rw [r1.1, nI_iI, iI_sub]; rfl) (A (fun v => Q (some (.int v)) g I1 J) (k I1 J h1 (rKp.trans rKp.th f).fr))
    · refine ⟨-1000000, (t, p, M, s, hs, im, sc, rf), ok, fun d g I J Q h k => ?_, fun d g I J Q hsh h k => ?_⟩
      · have h : kI g I t p M s hs im sc rf := h
        refine w122 h.1.1 (brIgt (by omega) (fun _ _ _ => k_gatA ok h e0 e1 e2 e3 (fun hp hv => absurd ⟨hp, hv⟩ hA) (fun _ I1 f => ⟨_, rfl, br0 ?_⟩)) (fun h0 => absurd e5 (h0 u (by omega))))
        have z := h.cub (I' := I1) (fun b hb => f b (by omega))
        exact k g I1 J z.1 z.2
      · have h2 := rI.keep h ok rKp.th
        exact w253 hsh (r_in rfl (by omega) (fun _ _ _ => ⟨_, rfl, br1 (r_layA ok hsh h2 e0 e1 e2 e3 (fun hp hv => absurd ⟨hp, hv⟩ hA) (fun _ I1 h1 f => ⟨_, rfl, br0 (k I1 J h1 (rKp.trans rKp.th f).fr)⟩))⟩) (fun h0 => absurd e5 (h0 u (by omega))))
  · refine ⟨-1000000, (t, p, M, s, hs, im, sc, rf), ok, fun d g I J Q h k => ?_, fun d g I J Q hsh h k => ?_⟩
    · have h : kI g I t p M s hs im sc rf := h
      have k := k g I J h (kFr.refl g I)
      exact w122 h.1.1 (brIgt (by omega) (fun r hr e => absurd e (hx r hr)) (fun _ => ⟨k, k⟩))
    · have h2 := rI.keep h ok rKp.th
      exact w253 hsh (r_in rfl (by omega) (fun q hq e => absurd e (hx q (by omega))) (fun _ => ⟨_, rfl, br0 (k _ J h2 rKp.th.fr)⟩))
end SOLVES
