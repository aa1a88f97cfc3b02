/-! equations of degree three, of the class -/
def isSt (p : Nat) (a0 a1 a2 a3 y : Int) : Prop := (a0 + a1 * y + a2 * (y * y) + a3 * (y * y * y)) % p = 0 ∧ slo a1 a2 a3 y % p ≠ 0
def sCub (p L : Nat) (a0 a1 a2 a3 : Nat → Int) (h : Int) : Nat → Int := ppl (cubF p a0 a1 a2 a3 (iv p (slo (a1 0) (a2 0) (a3 0) h % p))) h (L - 1)
section KCUB
variable {d : Nat} {g : qG} {I : qI} {J : qJ} {Q : qQ} {p M n0 n1 n2 n3 : Nat} {a0 a1 a2 a3 : Nat → Int}
theorem em_add (a b p : Int) : (a % p + b) % p = (a + b) % p := Int.emod_add_emod a p b
theorem k_starts (hs : qSh g) (hr : kR I p M) (h0 : kS I 25 n0 a0) (h1 : kS I 27 n1 a1) (h2 : kS I 29 n2 a2) (h3 : kS I 31 n3 a3) (o0 : okS p n0 a0) (o1 : okS p n1 a1) (o2 : okS p n2 a2) (o3 : okS p n3 a3) (hn : 1 ≤ n0 ∧ 1 ≤ n1 ∧ 1 ≤ n2 ∧ 1 ≤ n3) {y : Int} (hy : 0 ≤ y ∧ y < p) {w : Int32} (hw : w = iI y)
    (k1 : isSt p (a0 0) (a1 0) (a2 0) (a3 0) y → Q (some (.int (nI 1))) g I J) (k0 : ¬ isSt p (a0 0) (a1 0) (a2 0) (a3 0) y → Q (some (.int (nI 0))) g I J) : qC d 27 [.ref 12, .int w] g I J Q := by
  subst hw
  have hp := hr.p2
  have b0 := o0.2.1 0
  have b1 := o1.2.1 0
  have b2 := o2.2.1 0
  have b3 := o3.2.1 0
  refine w27 hs ⟨hr.nz, hr.nz, hr.nz, hr.nz, hr.nz, ?_⟩
  rw [h0.2 0 (by omega), h1.2 0 (by omega), h2.2 0 (by omega), h3.2 0 (by omega)]
  generalize a0 0 = c0 at *
  generalize a1 0 = c1 at *
  generalize a2 0 = c2 at *
  generalize a3 0 = c3 at *
  have mb : ∀ a b : Int, 0 ≤ a ∧ a ≤ 3000 → 0 ≤ b ∧ b ≤ 997 → 0 ≤ a * b ∧ a * b ≤ 3000 * 997 := fun a b ha hb => ⟨Int.mul_nonneg ha.1 hb.1, Int.mul_le_mul ha.2 hb.2 hb.1 (by omega)⟩
  have md : ∀ a : Int, 0 ≤ a % p ∧ a % p < p := fun a => ⟨Int.emod_nonneg _ (by omega), Int.emod_lt_of_pos _ (by omega)⟩
  have q1 := mb c3 y (by omega) (by omega)
  have q2 := mb ((c3 * y + c2) % p) y (by have := md (c3 * y + c2); omega) (by omega)
  have q3 := mb (((c3 * y + c2) % p * y + c1) % p) y (by have := md ((c3 * y + c2) % p * y + c1); omega) (by omega)
  have q4 := mb (3 * c3) y (by omega) (by omega)
  have q5 := mb ((3 * c3 * y + 2 * c2) % p) y (by have := md (3 * c3 * y + 2 * c2); omega) (by omega)
  have e1 : qrem (qrem (qrem (iI c3 * iI y + iI c2) (I 12 7) * iI y + iI c1) (I 12 7) * iI y + iI c0) (I 12 7) = iI ((((c3 * y + c2) % p * y + c1) % p * y + c0) % p) := by
    rw [iI_mul, iI_add, hr.rem (by omega), iI_mul, iI_add, hr.rem (by omega), iI_mul, iI_add, hr.rem (by omega)]
  have e2 : qrem (qrem (nI 3 * iI c3 * iI y + nI 2 * iI c2) (I 12 7) * iI y + iI c1) (I 12 7) = iI (((3 * c3 * y + 2 * c2) % p * y + c1) % p) := by
    rw [nI_iI, nI_iI, iI_mul, iI_mul, iI_mul, iI_add]
    show qrem (qrem (iI (3 * c3 * y + 2 * c2)) (I 12 7) * iI y + iI c1) (I 12 7) = _
    rw [hr.rem (by omega), iI_mul, iI_add, hr.rem (by omega)]
  have e3 : (((c3 * y + c2) % p * y + c1) % p * y + c0) % p = (c0 + c1 * y + c2 * (y * y) + c3 * (y * y * y)) % p := by
    rw [Int.add_emod, em_l, ← Int.add_emod, Int.add_mul, Int.add_assoc, Int.add_emod, Int.mul_assoc, em_l, ← Int.add_emod]
    congr 1
    grind
  have e4 : ((3 * c3 * y + 2 * c2) % p * y + c1) % p = slo c1 c2 c3 y % p := by
    rw [Int.add_emod, em_l, ← Int.add_emod]
    congr 1
    unfold slo
    grind
  rw [e1, e2, e3, e4]
  have r1 := md (c0 + c1 * y + c2 * (y * y) + c3 * (y * y * y))
  have r2 := md (slo c1 c2 c3 y)
  refine ⟨fun h5 => ⟨fun h6 => k0 (fun h => ?_), fun h6 => k1 ⟨?_, ?_⟩⟩, fun h5 => k0 (fun h => ?_)⟩
  · rw [iI_z0, iI_eq (by omega) (by omega)] at h6; exact h.2 h6
  · rw [iI_z0, iI_eq (by omega) (by omega)] at h5; exact h5
  · rw [iI_z0, iI_eq (by omega) (by omega)] at h6; exact h6
  · rw [iI_z0, iI_eq (by omega) (by omega)] at h5; exact h5 h.1
theorem k_cubLen (hs : qSh g) (hr : kR I p M) (h0 : I 25 1 = nI n0) (h1 : I 27 1 = nI n1) (h2 : I 29 1 = nI n2) (h3 : I 31 1 = nI n3) (hb : n0 < 100 ∧ n1 < 100 ∧ n2 < 100 ∧ n3 < 100) (k : Q (some (.int (nI (min (min (min (min M n0) n1) n2) n3)))) g I J) : qC d 26 [.ref 12] g I J Q := by
  have hM := hr.2.2.2
  refine w26 hs (w26_7 hs ⟨fun h => absurd h (by decide +kernel), fun _ => ⟨0, rfl, by omega, w26_7 hs ⟨fun h => absurd h (by decide +kernel), fun _ => ⟨1, by decide +kernel, by omega, w26_7 hs ⟨fun h => absurd h (by decide +kernel), fun _ => ⟨2, by decide +kernel, by omega, w26_7 hs ⟨fun h => absurd h (by decide +kernel), fun _ => ⟨3, by decide +kernel, by omega, w26_7 hs ⟨fun _ => ?_, fun h => absurd (show nI 3 < nI 0 + nI 1 + nI 1 + nI 1 + nI 1 by decide +kernel) h⟩⟩⟩⟩⟩⟩⟩⟩⟩)
  rw [hr.2.1, h0, h1, h2, h3, qmin_nI (by omega) (by omega), qmin_nI (by omega) (by omega), qmin_nI (by omega) (by omega), qmin_nI (by omega) (by omega)]
  exact k
theorem k_cub_n (hs : qSh g) (hr : kR I p M) (h0 : kS I 25 n0 a0) (h1 : kS I 27 n1 a1) (h2 : kS I 29 n2 a2) (h3 : kS I 31 n3 a3) (o0 : okS p n0 a0) (o1 : okS p n1 a1) (o2 : okS p n2 a2) (o3 : okS p n3 a3) {L : Nat} (hL : L ≤ n0 ∧ L ≤ n1 ∧ L ≤ n2 ∧ L ≤ n3 ∧ L ≤ M ∧ 1 ≤ L) {h : Int} (hu : ¬ (p : Int) ∣ slo (a1 0) (a2 0) (a3 0) h) {i1 : Int32}
    (k : ∀ I' y, kS I' 18 L y → okS p L y → y 0 = h → pE p L (cub a0 a1 a2 a3 y) (fun _ => 0) → (∀ b, b ≠ 13 → b ≠ 18 → b ≠ 19 → b ≠ 20 → b ≠ 21 → b ≠ 22 → b ≠ 23 → I' b = I b) → Q (some (va_rf (some 18))) g I' J) :
    ∀ (f P : Nat) (I' : qI) (y : Nat → Int), L < P + f → 1 ≤ P → P ≤ 48 → kS I' 18 (min P L) y → okS p (min P L) y → y 0 = h → pE p (min P L) (cub a0 a1 a2 a3 y) (fun _ => 0) → (∀ b, b ≠ 13 → b ≠ 18 → b ≠ 19 → b ≠ 20 → b ≠ 21 → b ≠ 22 → b ≠ 23 → I' b = I b) →
      qev (d + 3) 28 (20, [.ref 12, .int i1, .int (nI L), .int (nI P)], [], g, I', J) Q
  | 0, P, I', y, hf, hP, hP2, hy, oy, hy0, hE, hfr => by
    have hM := hr.2.2.2
    have em : min P L = L := by omega
    rw [em] at hy oy hE
    refine w28_20 hs ⟨fun _ => k I' y hy oy hy0 hE hfr, fun h3 => ?_⟩
    rw [nI_leI (by omega) (by omega)] at h3; omega
  | f + 1, P, I', y, hf, hP, hP2, hy, oy, hy0, hE, hfr => by
    have hM := hr.2.2.2
    have hp := hr.p2
    have s18 : qSer g 18 := hs.ser rfl (by omega)
    have s20 : qSer g 20 := hs.ser rfl (by omega)
    have s22 : qSer g 22 := hs.ser rfl (by omega)
    have s25 : qSer g 25 := hs.ser rfl (by omega)
    have s27 : qSer g 27 := hs.ser rfl (by omega)
    have s29 : qSer g 29 := hs.ser rfl (by omega)
    have s31 : qSer g 31 := hs.ser rfl (by omega)
    refine w28_20 hs ⟨fun h3 => ?_, fun h3 => ?_⟩
    · rw [nI_leI (by omega) (by omega)] at h3
      have em : min P L = L := by omega
      rw [em] at hy oy hE
      exact k I' y hy oy hy0 hE hfr
    · rw [nI_leI (by omega) (by omega)] at h3
      have em : min P L = P := by omega
      rw [em] at hy oy hE
      rw [pk_mul, qmin_nI (by omega) (by omega)]
      generalize hm : min (2 * P) L = m
      have hm1 : 1 ≤ m ∧ m ≤ M ∧ P ≤ m ∧ m ≤ P + P ∧ m ≤ L := by omega
      have hmm : 1 ≤ m ∧ m ≤ M := ⟨hm1.1, hm1.2.1⟩
      have oy' : okS p m y := ⟨by omega, oy.2.1, fun i hi => oy.2.2 i (by omega)⟩
      have one : ∀ F G : Nat → Int, pE p m (fun i => F i + 1 * G i) (fun i => F i + G i) := fun F G => pE.of (fun i _ => by rw [Int.one_mul])
      -- what stays: beyond the work rows
      have st : ∀ (I2 : qI), (∀ b, b ≠ 13 → b ≠ 18 → b ≠ 19 → b ≠ 20 → b ≠ 21 → b ≠ 22 → b ≠ 23 → I2 b = I b) → kR I2 p M ∧ kA I2 p 25 m a0 ∧ kA I2 p 27 m a1 ∧ kA I2 p 29 m a2 ∧ kA I2 p 31 m a3 := fun I2 hf2 => by
        have fr : ∀ b, 24 ≤ b → I2 b = I b := fun b hb => hf2 b (by omega) (by omega) (by omega) (by omega) (by omega) (by omega) (by omega)
        exact ⟨hr.frame (hf2 12 (by omega) (by omega) (by omega) (by omega) (by omega) (by omega) (by omega)), (kA.of h0 o0 (by omega)).frame (fr _ (by omega)) (fr _ (by omega)), (kA.of h1 o1 (by omega)).frame (fr _ (by omega)) (fr _ (by omega)), (kA.of h2 o2 (by omega)).frame (fr _ (by omega)) (fr _ (by omega)), (kA.of (by assumption : kS I 31 n3 a3) o3 (by omega)).frame (fr _ (by omega)) (fr _ (by omega))⟩
      refine k_widen s18 hy oy hm1.2.2.1 (by omega) (fun I2 y2 r2 => ⟨rfl, ?_⟩)
      have f2 : ∀ b, b ≠ 13 → b ≠ 18 → b ≠ 19 → b ≠ 20 → b ≠ 21 → b ≠ 22 → b ≠ 23 → I2 b = I b := fun b g1 g2 g3 g4 g5 g6 g7 => by rw [r2 b g2 g3]; exact hfr b g1 g2 g3 g4 g5 g6 g7
      refine a_copy s20 s31 (by omega) (st I2 f2).2.2.2.2 (fun I3 A20 r3 => ⟨rfl, ?_⟩)
      have f3 : ∀ b, b ≠ 13 → b ≠ 18 → b ≠ 19 → b ≠ 20 → b ≠ 21 → b ≠ 22 → b ≠ 23 → I3 b = I b := fun b g1 g2 g3 g4 g5 g6 g7 => by rw [r3 b g4 g5]; exact f2 b g1 g2 g3 g4 g5 g6 g7
      refine a_copy s22 s31 (by omega) (st I3 f3).2.2.2.2 (fun I4 A22 r4 => ⟨rfl, ?_⟩)
      have f4 : ∀ b, b ≠ 13 → b ≠ 18 → b ≠ 19 → b ≠ 20 → b ≠ 21 → b ≠ 22 → b ≠ 23 → I4 b = I b := fun b g1 g2 g3 g4 g5 g6 g7 => by rw [r4 b g6 g7]; exact f3 b g1 g2 g3 g4 g5 g6 g7
      refine a_scale (fac := 3) hs s22 (by omega) (st I4 f4).1 (by omega) (nI_iI 3) A22 (fun I5 A22 r5 => ⟨rfl, ?_⟩)
      have f5 : ∀ b, b ≠ 13 → b ≠ 18 → b ≠ 19 → b ≠ 20 → b ≠ 21 → b ≠ 22 → b ≠ 23 → I5 b = I b := fun b g1 g2 g3 g4 g5 g6 g7 => by rw [r5 b g7]; exact f4 b g1 g2 g3 g4 g5 g6 g7
      have y5 : kS I5 18 m y := y2.frame (by rw [r5 18 (by omega), r4 18 (by omega) (by omega), r3 18 (by omega) (by omega)]) (by rw [r5 19 (by omega), r4 19 (by omega) (by omega), r3 19 (by omega) (by omega)])
      have A20 := A20.frame (I' := I5) (by rw [r5 20 (by omega), r4 20 (by omega) (by omega)]) (by rw [r5 21 (by omega), r4 21 (by omega) (by omega)])
      refine a_mul hs s20 s18 (by omega) (by omega) (st I5 f5).1 hmm A20 (y5.kA oy') (fun I6 A20 r6 => ⟨rfl, ?_⟩)
      have f6 : ∀ b, b ≠ 13 → b ≠ 18 → b ≠ 19 → b ≠ 20 → b ≠ 21 → b ≠ 22 → b ≠ 23 → I6 b = I b := fun b g1 g2 g3 g4 g5 g6 g7 => by rw [r6 b g4 g5]; exact f5 b g1 g2 g3 g4 g5 g6 g7
      refine a_add (fac := 1) hs s20 s29 (by omega) (by unfold dj; omega) (st I6 f6).1 (by omega) (nI_iI 1) A20 (st I6 f6).2.2.2.1 (fun I7 A20 r7 => ⟨rfl, ?_⟩)
      have A20 := A20.to (one _ _)
      have f7 : ∀ b, b ≠ 13 → b ≠ 18 → b ≠ 19 → b ≠ 20 → b ≠ 21 → b ≠ 22 → b ≠ 23 → I7 b = I b := fun b g1 g2 g3 g4 g5 g6 g7 => by rw [r7 b g4 g5]; exact f6 b g1 g2 g3 g4 g5 g6 g7
      have y7 : kS I7 18 m y := y5.frame (by rw [r7 18 (by omega) (by omega), r6 18 (by omega) (by omega)]) (by rw [r7 19 (by omega) (by omega), r6 19 (by omega) (by omega)])
      refine a_mul hs s20 s18 (by omega) (by omega) (st I7 f7).1 hmm A20 (y7.kA oy') (fun I8 A20 r8 => ⟨rfl, ?_⟩)
      have f8 : ∀ b, b ≠ 13 → b ≠ 18 → b ≠ 19 → b ≠ 20 → b ≠ 21 → b ≠ 22 → b ≠ 23 → I8 b = I b := fun b g1 g2 g3 g4 g5 g6 g7 => by rw [r8 b g4 g5]; exact f7 b g1 g2 g3 g4 g5 g6 g7
      refine a_add (fac := 1) hs s20 s27 (by omega) (by unfold dj; omega) (st I8 f8).1 (by omega) (nI_iI 1) A20 (st I8 f8).2.2.1 (fun I9 A20 r9 => ⟨rfl, ?_⟩)
      have A20 := A20.to (one _ _)
      have f9 : ∀ b, b ≠ 13 → b ≠ 18 → b ≠ 19 → b ≠ 20 → b ≠ 21 → b ≠ 22 → b ≠ 23 → I9 b = I b := fun b g1 g2 g3 g4 g5 g6 g7 => by rw [r9 b g4 g5]; exact f8 b g1 g2 g3 g4 g5 g6 g7
      have y9 : kS I9 18 m y := y7.frame (by rw [r9 18 (by omega) (by omega), r8 18 (by omega) (by omega)]) (by rw [r9 19 (by omega) (by omega), r8 19 (by omega) (by omega)])
      refine a_mul hs s20 s18 (by omega) (by omega) (st I9 f9).1 hmm A20 (y9.kA oy') (fun Ia A20 ra => ⟨rfl, ?_⟩)
      have fa : ∀ b, b ≠ 13 → b ≠ 18 → b ≠ 19 → b ≠ 20 → b ≠ 21 → b ≠ 22 → b ≠ 23 → Ia b = I b := fun b g1 g2 g3 g4 g5 g6 g7 => by rw [ra b g4 g5]; exact f9 b g1 g2 g3 g4 g5 g6 g7
      refine a_add (fac := 1) hs s20 s25 (by omega) (by unfold dj; omega) (st Ia fa).1 (by omega) (nI_iI 1) A20 (st Ia fa).2.1 (fun Ib A20 rb => ⟨rfl, ?_⟩)
      have A20 := A20.to (one _ _)
      have fb : ∀ b, b ≠ 13 → b ≠ 18 → b ≠ 19 → b ≠ 20 → b ≠ 21 → b ≠ 22 → b ≠ 23 → Ib b = I b := fun b g1 g2 g3 g4 g5 g6 g7 => by rw [rb b g4 g5]; exact fa b g1 g2 g3 g4 g5 g6 g7
      have yb : kS Ib 18 m y := y9.frame (by rw [rb 18 (by omega) (by omega), ra 18 (by omega) (by omega)]) (by rw [rb 19 (by omega) (by omega), ra 19 (by omega) (by omega)])
      have A22 := A22.frame (I' := Ib) (by rw [rb 22 (by omega) (by omega), ra 22 (by omega) (by omega), r9 22 (by omega) (by omega), r8 22 (by omega) (by omega), r7 22 (by omega) (by omega), r6 22 (by omega) (by omega)]) (by rw [rb 23 (by omega) (by omega), ra 23 (by omega) (by omega), r9 23 (by omega) (by omega), r8 23 (by omega) (by omega), r7 23 (by omega) (by omega), r6 23 (by omega) (by omega)])
      refine a_mul hs s22 s18 (by omega) (by omega) (st Ib fb).1 hmm A22 (yb.kA oy') (fun Ic A22 rc => ⟨rfl, ?_⟩)
      have fc : ∀ b, b ≠ 13 → b ≠ 18 → b ≠ 19 → b ≠ 20 → b ≠ 21 → b ≠ 22 → b ≠ 23 → Ic b = I b := fun b g1 g2 g3 g4 g5 g6 g7 => by rw [rc b g6 g7]; exact fb b g1 g2 g3 g4 g5 g6 g7
      refine a_add (fac := 2) hs s22 s29 (by omega) (by unfold dj; omega) (st Ic fc).1 (by omega) (nI_iI 2) A22 (st Ic fc).2.2.2.1 (fun Id A22 rd => ⟨rfl, ?_⟩)
      have fd : ∀ b, b ≠ 13 → b ≠ 18 → b ≠ 19 → b ≠ 20 → b ≠ 21 → b ≠ 22 → b ≠ 23 → Id b = I b := fun b g1 g2 g3 g4 g5 g6 g7 => by rw [rd b g6 g7]; exact fc b g1 g2 g3 g4 g5 g6 g7
      have yd : kS Id 18 m y := yb.frame (by rw [rd 18 (by omega) (by omega), rc 18 (by omega) (by omega)]) (by rw [rd 19 (by omega) (by omega), rc 19 (by omega) (by omega)])
      refine a_mul hs s22 s18 (by omega) (by omega) (st Id fd).1 hmm A22 (yd.kA oy') (fun Ie A22 re => ⟨rfl, ?_⟩)
      have fe : ∀ b, b ≠ 13 → b ≠ 18 → b ≠ 19 → b ≠ 20 → b ≠ 21 → b ≠ 22 → b ≠ 23 → Ie b = I b := fun b g1 g2 g3 g4 g5 g6 g7 => by rw [re b g6 g7]; exact fd b g1 g2 g3 g4 g5 g6 g7
      refine a_add (fac := 1) hs s22 s27 (by omega) (by unfold dj; omega) (st Ie fe).1 (by omega) (nI_iI 1) A22 (st Ie fe).2.2.1 (fun Ig A22 rg => ⟨rfl, ?_⟩)
      have A22 := A22.to (one _ _)
      have fg : ∀ b, b ≠ 13 → b ≠ 18 → b ≠ 19 → b ≠ 20 → b ≠ 21 → b ≠ 22 → b ≠ 23 → Ig b = I b := fun b g1 g2 g3 g4 g5 g6 g7 => by rw [rg b g6 g7]; exact fe b g1 g2 g3 g4 g5 g6 g7
      have yg : kS Ig 18 m y := yd.frame (by rw [rg 18 (by omega) (by omega), re 18 (by omega) (by omega)]) (by rw [rg 19 (by omega) (by omega), re 19 (by omega) (by omega)])
      have A20 := A20.frame (I' := Ig) (by rw [rg 20 (by omega) (by omega), re 20 (by omega) (by omega), rd 20 (by omega) (by omega), rc 20 (by omega) (by omega)]) (by rw [rg 21 (by omega) (by omega), re 21 (by omega) (by omega), rd 21 (by omega) (by omega), rc 21 (by omega) (by omega)])
      refine k_lift hs (st Ig fg).1 hmm yg oy' A20 A22 ?_ (fun Ih y' iw l1 l2 l3 l4 l5 => ⟨rfl, ?_⟩)
      · rw [cv_0, cv_0, hy0]
        have e9 : (3 * a3 0 * h + 2 * a2 0) * h + a1 0 = slo (a1 0) (a2 0) (a3 0) h := by unfold slo; grind
        rw [e9]; exact hu
      · rw [pk_mul, show P * 2 = 2 * P by omega]
        have hy2 := newton_cub hm1.2.2.2.1 hm1.2.2.1 hE (pE.refl _ _ _) (pE.refl _ _ _) l3 l4
        have h00 : y' 0 = h := by
          rw [cub_hor] at l4
          generalize hgp : cub a0 a1 a2 a3 y = gp at l4 hE
          have q1 := l4 0 (by omega)
          have q3 := hE 0 (by omega)
          dsimp only at q1 q3
          rw [cv_0] at q1
          rw [Int.sub_zero] at q3
          have q4 := Int.dvd_mul_of_dvd_left (c := iw 0) q3
          have q5 := Int.dvd_sub q1 q4
          rw [← hy0]
          refine red_eq ?_ (l2.2.1 0) (oy.2.1 0)
          rwa [show y' 0 - (y 0 - gp 0 * iw 0) - gp 0 * iw 0 = y' 0 - y 0 by omega] at q5
        have hmn : min (2 * P) L = m := hm
        refine k_cub_n hs hr h0 h1 h2 (by assumption) o0 o1 o2 o3 hL hu k f (2 * P) Ih y' (by omega) (by omega) (by omega) (by rw [hmn]; exact l1) (by rw [hmn]; exact l2) h00 (by rw [hmn]; exact hy2) (fun b g1 g2 g3 g4 g5 g6 g7 => ?_)
        rw [l5 b g1 g2 g3 g4 g5 g6 g7]
        exact fg b g1 g2 g3 g4 g5 g6 g7
theorem k_cubRoot (hs : qSh g) (hr : kR I p M) (h0 : kS I 25 n0 a0) (h1 : kS I 27 n1 a1) (h2 : kS I 29 n2 a2) (h3 : kS I 31 n3 a3) (o0 : okS p n0 a0) (o1 : okS p n1 a1) (o2 : okS p n2 a2) (o3 : okS p n3 a3) {L : Nat} (hL : L ≤ n0 ∧ L ≤ n1 ∧ L ≤ n2 ∧ L ≤ n3 ∧ L ≤ M ∧ 1 ≤ L) {h : Int} (hh : 0 ≤ h ∧ h < p) (hst : isSt p (a0 0) (a1 0) (a2 0) (a3 0) h)
    (k : ∀ I', kS I' 18 L (sCub p L a0 a1 a2 a3 h) → (∀ b, b ≠ 13 → b ≠ 18 → b ≠ 19 → b ≠ 20 → b ≠ 21 → b ≠ 22 → b ≠ 23 → I' b = I b) → Q (some (va_rf (some 18))) g I' J) : qC (d + 3) 28 [.ref 12, .int (iI h), .int (nI L)] g I J Q := by
  have hp := hr.p2
  have hM := hr.2.2.2
  have hun := hr.2.2.1.ivu hst.2 ⟨Int.emod_nonneg _ (by omega), Int.emod_lt_of_pos _ (by omega)⟩
  have hun2 : (p : Int) ∣ slo (a1 0) (a2 0) (a3 0) h * iv p (slo (a1 0) (a2 0) (a3 0) h % p) - 1 := by
    apply dvd_emod.mpr
    rw [← em_l]
    exact dvd_emod.mp hun
  have hu : ¬ (p : Int) ∣ slo (a1 0) (a2 0) (a3 0) h := fun hd => hst.2 (Int.emod_eq_zero_of_dvd hd)
  have hc0 : ∀ y : Nat → Int, y 0 = h → (p : Int) ∣ cub a0 a1 a2 a3 y 0 := fun y hy => by
    unfold cub
    simp only [cv_0]
    rw [hy]
    exact Int.dvd_of_emod_eq_zero hst.1
  have oS : okS p (min 1 L) (fun i => if i = 0 then h else 0) := ⟨by omega, fun i => by dsimp only; split <;> omega, fun i hi => if_neg (by omega)⟩
  refine w28 hs (k_cub_n (L := L) (h := h) hs hr h0 h1 h2 h3 o0 o1 o2 o3 hL hu (fun I' y b1 b2 b3 b4 b5 => k I' ⟨b1.1, fun i hi => ?_⟩ b5) L 1 _ (fun i => if i = 0 then h else 0) (by omega) (Nat.le_refl _) (by omega) ?_ oS (if_pos rfl) ?_ (fun b g1 g2 g3 g4 g5 g6 g7 => by rw [zu_a g3, zu_a g2]))
  · have hok := cub_ok (p := p) (a0 := a0) (a1 := a1) (a2 := a2) (a3 := a3) (step := iv p (slo (a1 0) (a2 0) (a3 0) h % p)) (head := h) hun2 (hc0 _ (if_pos rfl)) (L - 1)
    rw [show L - 1 + 1 = L by omega] at hok
    have hq := cub_uniq (p := p) (n := L) (y := y) (z := sCub p L a0 a1 a2 a3 h) (w := iv p (slo (a1 0) (a2 0) (a3 0) h % p)) (by unfold sCub; rw [ppl_z]; exact b3) (by unfold sCub; rw [ppl_z]; exact hun2) b4 hok (fun i _ => b2.2.1 i) (fun i _ => ppl_red (by omega) hh (fun k y => ⟨Int.emod_nonneg _ (by omega), Int.emod_lt_of_pos _ (by omega)⟩) _ i)
    rw [b1.2 i hi, hq i hi]
  · refine ⟨by rw [zu_a (by omega), zu_s, show min 1 L = 1 by omega], fun i hi => ?_⟩
    rw [show i = 0 by omega, zu_s]
    rfl
  · intro i hi
    rw [show i = 0 by omega, Int.sub_zero]
    exact hc0 _ (if_pos rfl)
end KCUB
