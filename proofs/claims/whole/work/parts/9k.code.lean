/-! a SCRIPT kept by the class -/
section KCODE
variable {d : Nat} {g g' : qG} {I I' : qI} {J J' : qJ} {Q : qQ} {t : List Nat} {p M o : Nat} {s : ST} {hs : List ST} {im : Option ST} {sc : SC} {rf : RF} {ss : List SP}
/-- the constructor of a CODE, on the newest cell -/
theorem k_newCod {z : Nat} (hz : z ≤ 1000) {u : Int32} (hu : u = nI z) (ho : g.1 o = some (1, 5)) (hN : g.2.2.1 = o + 1) (k : ∀ g' I' J', gGrow g g' → (∀ a k, a < o → g'.2.1 a k = g.2.1 a k) → qCod g' o z → g'.2.2.1 = o + 4 → g'.2.2.2 = g.2.2.2 + 17 + z → (∀ a, a ≤ o → I' a = I a) → Q none g' I' J') : qC d 29 [.ref o, .int u] g I J Q := by
  subst hu
  show qev d 29 (0, [.ref o, .int (nI z)], [], g, I, J) Q
  have hob : qob g o 1 = true := qob_of ho
  refine e_next (pc' := 1) rfl rfl ?_
  refine e_next (pc' := 4) rfl rfl ?_
  refine e_next (pc' := 5) rfl rfl ?_
  refine e_bipush (pc' := 7) rfl rfl kb_9 ?_
  refine e_newa (pc' := 9) 100 9 rfl (Or.inl ⟨rfl, rfl⟩) rfl rfl (by omega) ?_
  generalize hg1 : qmk 100 9 g = g1
  generalize hI1 : qmI g I = I1
  generalize hJ1 : qmJ g J = J1
  have n1 : g1.2.2.1 = o + 2 := by rw [← hg1]; show g.2.2.1 + 1 = _; omega
  have s1 : g1.2.2.2 = g.2.2.2 + 9 := by rw [← hg1]; rfl
  have K1 : ∀ a, a ≠ o + 1 → g1.1 a = g.1 a := fun a ha => by rw [← hg1]; exact zmk_K (by omega)
  have K1s : g1.1 (o + 1) = some (100, 9) := by rw [← hg1, ← hN]; exact zmk_s
  have A1 : ∀ a, a ≠ o + 1 → g1.2.1 a = g.2.1 a := fun a ha => by rw [← hg1]; exact zmk_A (by omega)
  have i1 : ∀ a, a ≤ o → I1 a = I a := fun a ha => by rw [← hI1]; exact zv_a (by omega)
  have hob1 : qob g1 o 1 = true := qob_of (by rw [K1 o (by omega)]; exact ho)
  refine e_putA (v := some g.2.2.1) (pc' := 12) rfl rfl hob1 ?_
  refine e_next (pc' := 13) rfl rfl ?_
  refine e_bipush (pc' := 15) rfl rfl kb_8 ?_
  refine e_newa (pc' := 17) 100 8 rfl (Or.inl ⟨rfl, rfl⟩) rfl rfl (by omega) ?_
  generalize hg2 : qmk 100 8 (g1.1, qw g1.2.1 o 1 (some g.2.2.1), g1.2.2) = g2
  generalize hI2 : qmI (g1.1, qw g1.2.1 o 1 (some g.2.2.1), g1.2.2) I1 = I2
  generalize hJ2 : qmJ (g1.1, qw g1.2.1 o 1 (some g.2.2.1), g1.2.2) J1 = J2
  have n2 : g2.2.2.1 = o + 3 := by rw [← hg2]; show g1.2.2.1 + 1 = _; omega
  have s2 : g2.2.2.2 = g.2.2.2 + 17 := by rw [← hg2]; show g1.2.2.2 + 8 = _; omega
  have K2 : ∀ a, a ≠ o + 2 → g2.1 a = g1.1 a := fun a ha => by rw [← hg2]; exact if_neg (by show a ≠ g1.2.2.1; omega)
  have K2s : g2.1 (o + 2) = some (100, 8) := by rw [← hg2]; exact if_pos (by show o + 2 = g1.2.2.1; omega)
  have A2 : ∀ a, a ≠ o + 2 → g2.2.1 a = qw g1.2.1 o 1 (some g.2.2.1) a := fun a ha => by rw [← hg2]; exact if_neg (by show a ≠ g1.2.2.1; omega)
  have i2 : ∀ a, a ≤ o → I2 a = I a := fun a ha => by rw [← hI2]; exact (zv_a (by show a ≠ g1.2.2.1; omega)).trans (i1 a ha)
  have hob2 : qob g2 o 1 = true := qob_of (by rw [K2 o (by omega), K1 o (by omega)]; exact ho)
  refine e_putA (v := some g1.2.2.1) (pc' := 20) rfl rfl hob2 ?_
  refine e_next (pc' := 21) rfl rfl ?_
  refine e_next (pc' := 22) rfl rfl ?_
  refine e_if (0 ≤ nI z) (pc' := 25) rfl rfl e_d (fun hc => ?_) (fun hc => absurd (by rw [← nI_0, nI_leI (by omega) (by omega)]; omega) hc)
  refine e_next (pc' := 30) rfl rfl ?_
  refine e_newa (pc' := 32) 100 z rfl (Or.inl ⟨rfl, rfl⟩) rfl rfl (by omega) ?_
  generalize hg3 : qmk 100 z (g2.1, qw g2.2.1 o 2 (some g1.2.2.1), g2.2.2) = g3
  generalize hI3 : qmI (g2.1, qw g2.2.1 o 2 (some g1.2.2.1), g2.2.2) I2 = I3
  generalize hJ3 : qmJ (g2.1, qw g2.2.1 o 2 (some g1.2.2.1), g2.2.2) J2 = J3
  have n3 : g3.2.2.1 = o + 4 := by rw [← hg3]; show g2.2.2.1 + 1 = _; omega
  have s3 : g3.2.2.2 = g.2.2.2 + 17 + z := by rw [← hg3]; show g2.2.2.2 + z = _; omega
  have K3 : ∀ a, a ≠ o + 3 → g3.1 a = g2.1 a := fun a ha => by rw [← hg3]; exact if_neg (by show a ≠ g2.2.2.1; omega)
  have K3s : g3.1 (o + 3) = some (100, z) := by rw [← hg3]; exact if_pos (by show o + 3 = g2.2.2.1; omega)
  have A3 : ∀ a, a ≠ o + 3 → g3.2.1 a = qw g2.2.1 o 2 (some g1.2.2.1) a := fun a ha => by rw [← hg3]; exact if_neg (by show a ≠ g2.2.2.1; omega)
  have i3 : ∀ a, a ≤ o → I3 a = I a := fun a ha => by rw [← hI3]; exact (zv_a (by show a ≠ g2.2.2.1; omega)).trans (i2 a ha)
  have hob3 : qob g3 o 1 = true := qob_of (by rw [K3 o (by omega), K2 o (by omega), K1 o (by omega)]; exact ho)
  refine e_putA (v := some g2.2.2.1) (pc' := 35) rfl rfl hob3 ?_
  refine qev_ret rfl rfl (k _ I3 J3 ⟨?_, fun a ha => ?_⟩ (fun a k ha => ?_) ⟨?_, ⟨?_, ?_⟩, ⟨?_, ?_⟩, ⟨?_, ?_⟩, by omega⟩ n3 s3 i3)
  · show g.2.2.1 ≤ g3.2.2.1; omega
  · show g3.1 a = g.1 a
    rw [K3 a (by omega), K2 a (by omega), K1 a (by omega)]
  · show qw g3.2.1 o 0 (some g2.2.2.1) a k = g.2.1 a k
    rw [zu_ab (by omega), A3 a (by omega), zu_ab (by omega), A2 a (by omega), zu_ab (by omega), A1 a (by omega)]
  · show g3.1 o = some (1, 5)
    rw [K3 o (by omega), K2 o (by omega), K1 o (by omega)]; exact ho
  · show qw g3.2.1 o 0 (some g2.2.2.1) o 0 = some (o + 3)
    rw [zu_s, n2]
  · exact K3s
  · show qw g3.2.1 o 0 (some g2.2.2.1) o 1 = some (o + 1)
    rw [zu_k (by omega), A3 o (by omega), zu_k (by omega), A2 o (by omega), zu_s, hN]
  · show g3.1 (o + 1) = some (100, 9)
    rw [K3 _ (by omega), K2 _ (by omega)]; exact K1s
  · show qw g3.2.1 o 0 (some g2.2.2.1) o 2 = some (o + 2)
    rw [zu_k (by omega), A3 o (by omega), zu_s, n1]
  · show g3.1 (o + 2) = some (100, 8)
    rw [K3 _ (by omega)]; exact K2s
theorem k_shortC (hsh : qSh g) (h120 : 120 ≤ g.2.2.1) (hC : kCode I 7 320 ss) (k : ∀ g' I' J', gGrow g g' → (∀ a k, a < g.2.2.1 → g'.2.1 a k = g.2.1 a k) → qCod g' g.2.2.1 (cat ss).length → kCode I' g.2.2.1 (cat ss).length ss → g'.2.2.1 = g.2.2.1 + 4 → g'.2.2.2 = g.2.2.2 + 22 + (cat ss).length → (∀ a, a < g.2.2.1 → I' a = I a) → Q (some (va_rf (some g.2.2.1))) g' I' J') : qC (d + 1) 36 [.ref 7] g I J Q := by
  obtain ⟨c1, c2, c3, c4, c5, c6, c7⟩ := hC
  show qev (d + 1) 36 (0, [.ref 7, qpad], [], g, I, J) Q
  refine e_new (a := 1) (b := 5) (pc' := 3) rfl rfl rfl ?_
  generalize hg0 : qmk 1 5 g = g0
  generalize hI0 : qmI g I = I0
  generalize hJ0 : qmJ g J = J0
  have n0 : g0.2.2.1 = g.2.2.1 + 1 := by rw [← hg0]; rfl
  have s0 : g0.2.2.2 = g.2.2.2 + 5 := by rw [← hg0]; rfl
  have K0 : ∀ a, a ≠ g.2.2.1 → g0.1 a = g.1 a := fun a ha => by rw [← hg0]; exact zmk_K ha
  have K0s : g0.1 g.2.2.1 = some (1, 5) := by rw [← hg0]; exact zmk_s
  have A0 : ∀ a, a ≠ g.2.2.1 → g0.2.1 a = g.2.1 a := fun a ha => by rw [← hg0]; exact zmk_A ha
  have i0 : ∀ q, q < g.2.2.1 → I0 q = I q := fun q hq => by rw [← hI0]; exact zv_a (by omega)
  have d0 : qCod g0 7 320 := by
    have h := hsh.draft
    unfold qCod
    rw [K0 7 (by omega), K0 (7 + 3) (by omega), K0 (7 + 1) (by omega), K0 (7 + 2) (by omega), A0 7 (by omega)]
    exact h
  refine e_next (pc' := 4) rfl rfl ?_
  refine e_next (pc' := 5) rfl rfl ?_
  refine e_getI (pc' := 8) rfl (Or.inl rfl) rfl d0.o ?_
  refine e_cgV (pc' := 11) rfl (e_sV (as := [_]) (fun _ => rfl) (Or.inr rfl) rfl (qob_of K0s) rfl rfl (Nat.le_of_ble_eq_true rfl) (Nat.le_of_ble_eq_true rfl) rfl) ?_
  refine k_newCod (o := g.2.2.1) (z := (cat ss).length) (by omega) (by rw [i0 7 (by omega)]; exact c3) K0s n0 (fun g1 I1 J1 gr rs cd nn sn fr => ⟨rfl, ?_⟩)
  have gr1 : gGrow g g1 := ⟨by omega, fun a ha => by rw [gr.2 a (by omega), K0 a (by omega)]⟩
  have rs1 : ∀ a k, a < g.2.2.1 → g1.2.1 a k = g.2.1 a k := fun a k ha => by rw [rs a k (by omega), A0 a (by omega)]
  have i1 : ∀ a, a < g.2.2.1 → I1 a = I a := fun a ha => by rw [fr a (by omega), i0 a ha]
  have d1 : qCod g1 7 320 := gr1.cod hsh.draft (by omega) (fun k => rs1 7 k (by omega))
  have e73 : ∀ I2 : qI, I2 7 = I 7 → I2 7 3 = nI ss.length := fun I2 e => by rw [e]; exact c1
  have e74 : ∀ I2 : qI, I2 7 = I 7 → I2 7 4 = nI (cat ss).length := fun I2 e => by rw [e]; exact c3
  generalize ho : g.2.2.1 = o at *
  refine e_next (pc' := 12) rfl rfl ?_
  refine e_next (pc' := 13) rfl rfl ?_
  refine e_getR (pc' := 16) rfl rfl d1.o d1.a0 ?_
  refine e_iconst (pc' := 17) rfl rfl kc_0 ?_
  refine e_next (pc' := 18) rfl rfl ?_
  refine e_getR (pc' := 21) rfl rfl cd.o cd.a0 ?_
  refine e_iconst (pc' := 22) rfl rfl kc_0 ?_
  refine e_next (pc' := 23) rfl rfl ?_
  refine e_getI (pc' := 26) rfl (Or.inl rfl) rfl d1.o ?_
  refine e_copy 0 0 (cat ss).length (pc' := 29) rfl rfl (Nat.le_of_ble_eq_true rfl) d1.k0 cd.k0 rfl rfl (e74 _ (i1 7 (by omega))) (by omega) (by omega) (by omega) (by omega) ?_
  refine e_next (pc' := 30) rfl rfl ?_
  refine e_getR (pc' := 33) rfl rfl d1.o d1.a1 ?_
  refine e_iconst (pc' := 34) rfl rfl kc_0 ?_
  refine e_next (pc' := 35) rfl rfl ?_
  refine e_getR (pc' := 38) rfl rfl cd.o cd.a1 ?_
  refine e_iconst (pc' := 39) rfl rfl kc_0 ?_
  refine e_next (pc' := 40) rfl rfl ?_
  refine e_getR (pc' := 43) rfl rfl d1.o d1.a1 ?_
  refine e_alen (n := 9) (pc' := 44) rfl rfl d1.k1 rfl rfl ?_
  refine e_copy 0 0 9 (pc' := 47) rfl rfl (Nat.le_of_ble_eq_true rfl) d1.k1 cd.k1 rfl rfl rfl (by omega) (by omega) (by omega) (by omega) ?_
  refine e_next (pc' := 48) rfl rfl ?_
  refine e_getR (pc' := 51) rfl rfl d1.o d1.a2 ?_
  refine e_iconst (pc' := 52) rfl rfl kc_0 ?_
  refine e_next (pc' := 53) rfl rfl ?_
  refine e_getR (pc' := 56) rfl rfl cd.o cd.a2 ?_
  refine e_iconst (pc' := 57) rfl rfl kc_0 ?_
  refine e_next (pc' := 58) rfl rfl ?_
  refine e_getR (pc' := 61) rfl rfl d1.o d1.a2 ?_
  refine e_alen (n := 8) (pc' := 62) rfl rfl d1.k2 rfl rfl ?_
  refine e_copy 0 0 8 (pc' := 65) rfl rfl (Nat.le_of_ble_eq_true rfl) d1.k2 cd.k2 rfl rfl rfl (by omega) (by omega) (by omega) (by omega) ?_
  generalize hI2 : va_up I1 (o + 3) (va_cpy (I1 (7 + 3)) (I1 (o + 3)) 0 0 (cat ss).length) = I2
  generalize hI3 : va_up I2 (o + 1) (va_cpy (I2 (7 + 1)) (I2 (o + 1)) 0 0 9) = I3
  generalize hI4 : va_up I3 (o + 2) (va_cpy (I3 (7 + 2)) (I3 (o + 2)) 0 0 8) = I4
  have f2 : ∀ b, b ≠ o + 3 → I2 b = I1 b := fun b hb => by rw [← hI2]; exact zv_a hb
  have f3 : ∀ b, b ≠ o + 1 → I3 b = I2 b := fun b hb => by rw [← hI3]; exact zv_a hb
  have f4 : ∀ b, b ≠ o + 2 → I4 b = I3 b := fun b hb => by rw [← hI4]; exact zv_a hb
  have i4 : ∀ b, b < o → I4 b = I b := fun b hb => by rw [f4 b (by omega), f3 b (by omega), f2 b (by omega), i1 b hb]
  have h3 : ∀ j, j < (cat ss).length → I4 (o + 3) j = I 10 j := fun j hj => by
    rw [f4 _ (by omega), f3 _ (by omega), ← hI2, zv_s, pk_cpy_in (by omega) (by omega), show 0 + (j - 0) = j by omega, i1 (7 + 3) (by omega)]
  have h1 : ∀ j, j < 9 → I4 (o + 1) j = I 8 j := fun j hj => by
    rw [f4 _ (by omega), ← hI3, zv_s, pk_cpy_in (by omega) (by omega), show 0 + (j - 0) = j by omega, f2 _ (by omega), i1 (7 + 1) (by omega)]
  have h2 : ∀ j, j < 8 → I4 (o + 2) j = I 9 j := fun j hj => by
    rw [← hI4, zv_s, pk_cpy_in (by omega) (by omega), show 0 + (j - 0) = j by omega, f3 _ (by omega), f2 _ (by omega), i1 (7 + 2) (by omega)]
  refine e_next (pc' := 66) rfl rfl ?_
  refine e_next (pc' := 67) rfl rfl ?_
  refine e_getI (pc' := 70) rfl (Or.inl rfl) rfl d1.o ?_
  refine e_putI (pc' := 73) rfl rfl cd.o ?_
  refine e_next (pc' := 74) rfl rfl ?_
  refine e_next (pc' := 75) rfl rfl ?_
  refine e_getI (pc' := 78) rfl (Or.inl rfl) rfl d1.o ?_
  refine e_putI (pc' := 81) rfl rfl cd.o ?_
  refine e_next (pc' := 82) rfl rfl ?_
  refine e_aret (v := some o) rfl ?_
  refine k g1 _ J1 gr1 rs1 cd ⟨?_, c2, ?_, Nat.le_refl _, fun j hj => ?_, fun j q hj => ?_, fun j q hj => ?_⟩ nn (by rw [sn, s0]) (fun a ha => ?_)
  · rw [zu_k (by omega), zu_s, e73 I4 (i4 7 (by omega))]
  · rw [zu_s, zu_a (by omega), e74 I4 (i4 7 (by omega))]
  · rw [zu_a (by omega), zu_a (by omega), h1 j (by omega)]; exact c5 j hj
  · have := getE_lt hj
    rw [zu_a (by omega), zu_a (by omega), h2 j (by omega)]; exact c6 j q hj
  · have := getE_lt hj
    rw [zu_a (by omega), zu_a (by omega), h3 j (by omega)]; exact c7 j q hj
  · rw [zu_a (by omega), zu_a (by omega), i4 a ha]
theorem k_takeS (h : kI g I t p M s hs im sc rf) (h4 : sc.length < 4) (hC : kCode I 7 320 ss) (k : ∀ g' I' J', kI g' I' t p M s hs im (sc ++ [ss]) rf → kFr g g' I I' → Q (some (.int (nI sc.length))) g' I' J') : qC (d + 2) 134 [.ref 4] g I J Q := by
  obtain ⟨hg, ⟨bb, bs, hrc⟩, h80, hT, hR, hS, ⟨nx, hH⟩, hM, hK, hf⟩ := h
  have hsh := hg.1
  have h120 := hg.2.1
  have c4 := hC.2.2.2.1
  show qev (d + 2) 134 (0, [.ref 4], [], g, I, J) Q
  refine e_next (pc' := 1) rfl rfl ?_
  refine e_getR (w := 103) (pc' := 4) rfl rfl (hsh.o rfl) (hsh.a rfl) ?_
  refine e_next (pc' := 5) rfl rfl ?_
  refine e_getI (pc' := 8) rfl (Or.inl rfl) rfl (hsh.o rfl) ?_
  refine e_next (pc' := 9) rfl rfl ?_
  refine e_getR (w := 7) (pc' := 12) rfl rfl (hsh.o rfl) (hsh.a rfl) ?_
  refine e_cgA (pc' := 15) rfl (e_sV (as := []) (fun _ => rfl) (Or.inl rfl) rfl hsh.draft.o rfl rfl (Nat.le_of_ble_eq_true rfl) (Nat.le_of_ble_eq_true rfl) rfl) ?_
  refine k_shortC hsh h120 hC (fun g1 I1 J1 gr rs cd kc nn sn fr => ⟨_, rfl, ?_⟩)
  have k103 : g1.1 103 = some (105, 4) := by rw [gr.2 103 (by omega)]; exact hsh.k rfl
  have hsh1 : qSh g1 := hsh.grow gr h120 (fun a k ha _ _ => rs a k (by omega))
  generalize ho : g.2.2.1 = o at *
  refine e_aast sc.length (c := 105) (pc' := 16) rfl rfl k103 rfl (qob_of cd.1) hK.1 (by omega) (by omega) ?_
  have gr2 : gGrow g (g1.1, qw g1.2.1 103 sc.length (some o), g1.2.2) := ⟨by rw [ho]; exact (by show o ≤ g1.2.2.1; omega), fun a ha => gr.2 a (by omega)⟩
  have rs2 : ∀ a k, a < o → a ≠ 103 → qw g1.2.1 103 sc.length (some o) a k = g.2.1 a k := fun a k h1 h2 => by rw [zu_ab h2]; exact rs a k h1
  generalize hg2 : (g1.1, qw g1.2.1 103 sc.length (some o), g1.2.2) = g2 at *
  have K2 : g2.1 = g1.1 := by rw [← hg2]
  have A2 : g2.2.1 = qw g1.2.1 103 sc.length (some o) := by rw [← hg2]
  have N2 : g2.2.2 = g1.2.2 := by rw [← hg2]
  have sh2 : qSh g2 := hsh.grow gr2 (by omega) (fun a k h1 h2 h3 => by rw [A2]; exact rs2 a k (by omega) h3)
  refine e_next (pc' := 17) rfl rfl ?_
  refine e_next (pc' := 18) rfl rfl ?_
  refine e_getI (pc' := 21) rfl (Or.inl rfl) rfl (sh2.o rfl) ?_
  refine e_iconst (pc' := 22) rfl rfl kc_1 ?_
  refine e_next (pc' := 23) rfl rfl ?_
  refine e_putI (pc' := 26) rfl rfl (sh2.o rfl) ?_
  refine e_next (pc' := 27) rfl rfl ?_
  refine e_getI (pc' := 30) rfl (Or.inl rfl) rfl (sh2.o rfl) ?_
  refine e_iconst (pc' := 31) rfl rfl kc_1 ?_
  refine e_next (pc' := 32) rfl rfl ?_
  refine e_iret rfl ?_
  have e413 : I1 4 13 = nI sc.length := by rw [fr 4 (by omega)]; exact hK.1
  generalize hI2 : qw I1 4 13 (I1 4 13 + nI 1) = I2
  have ev : I2 4 13 = nI (sc.length + 1) := by rw [← hI2, zu_s, e413, nI_add]
  have f : ∀ b, b ≠ 4 → b < o → I2 b = I b := fun b b1 b2 => by rw [← hI2, zu_a b1, fr b b2]
  have f4 : ∀ j, j ≠ 13 → I2 4 j = I 4 j := fun j hj => by rw [← hI2, zu_k hj, fr 4 (by omega)]
  have fh : ∀ b, o ≤ b → I2 b = I1 b := fun b hb => by rw [← hI2, zu_a (by omega)]
  have q2 : ∀ b, b + 3 < o → b ≠ 103 → qSta g b → qSta g2 b := fun b h1 h2 h3 => gr2.sta h3 (by omega) (fun k => by rw [A2]; exact rs2 b k (by omega) h2)
  have c2 : ∀ x n, 120 ≤ x → x + 3 < o → qCod g x n → qCod g2 x n := fun x n h1 h2 h3 => gr2.cod h3 (by omega) (fun k => by rw [A2]; exact rs2 x k (by omega) (by omega))
  have hst := hg.2.2.1
  show Q (some (.int (I2 4 13 - nI 1))) g2 I2 J1
  rw [ev, pk_sub (by omega), Nat.add_sub_cancel]
  refine k g2 I2 J1 ⟨⟨sh2, by rw [N2]; omega, fun i b hi hb => ?_, fun i j b hi hj hb hc => ?_⟩, ⟨bb, bs, ?_⟩, by rw [f 8 (by omega) (by omega)]; exact h80, hT.keep (f 5 (by omega) (by omega)) (f 6 (by omega) (by omega)), hR.keep (f4 14 (by omega)) (f 12 (by omega) (by omega)), hS.keep (fun b b1 b2 => f b (by omega) (by omega)), ⟨nx, ?_⟩, hM.keep (f4 15 (by omega)) (fun b b1 b2 => f b (by omega) (by omega)), ⟨by rw [ev, List.length_append]; rfl, fun j zs hj => ?_⟩, fun i hi => by rw [f 104 (by omega) (by omega)]; exact hf i hi⟩ ⟨fun b hb => f b (by omega) (by omega), gr2, by rw [N2]; omega, by rw [N2]; omega⟩
  · rw [A2, zu_ab (by omega), rs 102 i (by omega)] at hb
    obtain ⟨a1, a2, a3⟩ := hst i b hi hb
    exact ⟨a1, by rw [N2]; omega, q2 b (by omega) (by omega) a3⟩
  · rw [A2, zu_ab (by omega), rs 102 _ (by omega)] at hb hc
    exact hg.2.2.2 i j b hi hj hb hc
  · obtain ⟨a1, a2, a3, a4, a5, a6, a7⟩ := hrc
    have r83 : ∀ k, g2.2.1 83 k = g.2.1 83 k := fun k => by rw [A2]; exact rs2 83 k (by omega) (by omega)
    exact ⟨by rw [r83]; exact a1, by rw [r83]; exact a2, by rw [r83]; exact a3, by rw [gr2.2 84 (by omega)]; exact a4, by rw [gr2.2 bb (by omega)]; exact a5, by rw [gr2.2 bs (by omega)]; exact a6, a7⟩
  · obtain ⟨a1, a2, a3, a4, a5⟩ := hH
    refine ⟨by rw [f 101 (by omega) (by omega)]; exact a1, a2, by rw [f 101 (by omega) (by omega)]; exact a3, a4, fun j q hj => ?_⟩
    obtain ⟨b, b1, b2⟩ := a5 j q hj
    have b3 := hst _ b (Nat.mod_lt _ (by decide)) b1
    exact ⟨b, by rw [A2, zu_ab (by omega), rs 102 _ (by omega)]; exact b1, b2.keep (fun c c1 c2 => f c (by omega) (by omega))⟩
  · by_cases hj2 : j < sc.length
    · rw [List.getElem?_append_left hj2] at hj
      obtain ⟨x, n, a1, a2, a3, a4, a5, a6⟩ := hK.2 j zs hj
      exact ⟨x, n, by rw [A2, zu_k (by omega), rs 103 j (by omega)]; exact a1, a2, by rw [N2]; omega, c2 x n a2 (by omega) a4, a5, a6.keep (f _ (by omega) (by omega)) (f _ (by omega) (by omega)) (f _ (by omega) (by omega)) (f _ (by omega) (by omega))⟩
    · rw [List.getElem?_append_right (by omega)] at hj
      have hz : j - sc.length = 0 := by have := getE_lt hj; simpa using this
      rw [hz] at hj
      cases hj
      have ej : j = sc.length := by omega
      subst ej
      refine ⟨o, (cat ss).length, by rw [A2, zu_s], by omega, by rw [N2]; omega, ?_, by omega, kc.keep (fh _ (by omega)) (fh _ (by omega)) (fh _ (by omega)) (fh _ (by omega))⟩
      unfold qCod
      rw [K2, A2, zu_a (by omega)]
      exact cd
end KCODE
