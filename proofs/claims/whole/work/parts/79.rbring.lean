/-! the reference: a RECURRENCE of an order, brought -/
def rc (c : Nat → Int) (w : Nat) : gd := fun r k => if k < w then c (w + r - 1 - k) else c (w + r)
def eR (I I' : qI) : Prop := (∀ b, b ≠ 115 → b ≠ 117 → b ≠ 118 → I' b = I b) ∧ ∀ j, j / 25 ≠ 40 → I' 115 j = I 115 j
section RBRING
variable {d : Nat} {g : qG} {I : qI} {J : qJ} {Q : qQ} {p M m w n : Nat} {c : Nat → Int}
theorem r_row_l (hs : qSh g) (hS : rS I 0 n c) (o1 : okS p n c) (hm : m ≤ 24) (hw : w < 25) {n1 : Int32} {r : Nat} (hr : r < m)
    (kk : ∀ I' v5, eF I I' → (∀ q k, q ≤ r → k ≤ w → I' 117 (25 * q + k) = iI (rc c w q k)) → qev (d + 1) 257 (7, [.ref 105, .int (nI w), .int n1, .int (nI m), .int (nI (r + 1)), v5, qpad, qpad], [], g, I', J) Q) : ∀ (f j : Nat) (I' : qI), j + f = w → eF I I' → (∀ q k, (q < r ∧ k ≤ w) ∨ (q = r ∧ k < j) → I' 117 (25 * q + k) = iI (rc c w q k)) → qev (d + 1) 257 (16, [.ref 105, .int (nI w), .int n1, .int (nI m), .int (nI r), .int (nI j), qpad, qpad], [], g, I', J) Q
  | 0, j, I', hj, hF, hG => by
    have hjw : j = w := by omega
    subst hjw
    have hS' : rS I' 0 n c := ⟨by rw [hF 115 (by omega)]; exact hS.1, fun i hi => by rw [hF 115 (by omega)]; exact hS.2 i hi⟩
    refine w257_16 hs (brT (by rw [nI_leI (by omega) (by omega)]; omega) (r_c hs (by omega) hS' o1.1 o1.2.2 (i := j + r) (by omega) (by rw [nI_add]) ⟨_, rfl, 25 * r + j, by rw [pk_mul, nI_add], by omega, ?_⟩))
    rw [nI_add]
    refine kk _ _ (hF.trans (fun b hb => zu_a hb)) (fun q k hq hk => ?_)
    by_cases e : q = r ∧ k = j
    · rw [e.1, e.2, zu_s]; unfold rc; rw [if_neg (by omega)]
    · rw [zu_k (by omega)]; exact hG q k (by omega)
  | f + 1, j, I', hj, hF, hG => by
    have hS' : rS I' 0 n c := ⟨by rw [hF 115 (by omega)]; exact hS.1, fun i hi => by rw [hF 115 (by omega)]; exact hS.2 i hi⟩
    refine w257_16 hs (brN (by rw [nI_leI (by omega) (by omega)]; omega) (r_c hs (by omega) hS' o1.1 o1.2.2 (i := w + r - 1 - j) (by omega) (by rw [nI_add, pk_sub (by omega), pk_sub (by omega)]) ⟨_, rfl, 25 * r + j, by rw [pk_mul, nI_add], by omega, ?_⟩))
    rw [nI_add]
    refine r_row_l hs hS o1 hm hw hr kk f (j + 1) _ (by omega) (hF.trans (fun b hb => zu_a hb)) (fun q k hq => ?_)
    by_cases e : q = r ∧ k = j
    · rw [e.1, e.2, zu_s]; unfold rc; rw [if_pos (by omega)]
    · rw [zu_k (by omega)]; exact hG q k (by omega)
theorem r_rows_l (hs : qSh g) (hS : rS I 0 n c) (o1 : okS p n c) (hm : m ≤ 24) (hw : w < 25) {n1 : Int32}
    (kk : ∀ I' v5, eF I I' → rGd I' m w (rc c w) → qev (d + 1) 257 (7, [.ref 105, .int (nI w), .int n1, .int (nI m), .int (nI m), v5, qpad, qpad], [], g, I', J) Q) : ∀ (f r : Nat) (I' : qI) (v5 : Value), r + f = m → eF I I' → (∀ q k, q < r → k ≤ w → I' 117 (25 * q + k) = iI (rc c w q k)) → qev (d + 1) 257 (7, [.ref 105, .int (nI w), .int n1, .int (nI m), .int (nI r), v5, qpad, qpad], [], g, I', J) Q
  | 0, r, I', v5, hr, hF, hG => by
    have hrm : r = m := by omega
    subst hrm
    exact kk I' v5 hF hG
  | f + 1, r, I', v5, hr, hF, hG => by
    have hS' : rS I' 0 n c := ⟨by rw [hF 115 (by omega)]; exact hS.1, fun i hi => by rw [hF 115 (by omega)]; exact hS.2 i hi⟩
    refine w257_7 hs (brN (by rw [nI_leI (by omega) (by omega)]; omega) ?_)
    exact r_row_l hs hS' o1 hm hw (show r < m by omega) (fun I2 u5 f2 h2 => r_rows_l hs hS o1 hm hw kk f (r + 1) I2 u5 (by omega) (hF.trans f2) (fun q k hq hk => h2 q k (by omega) hk)) w 0 I' (by omega) (eF.refl I') (fun q k hq => hG q k (by omega) (by omega))
theorem r_none_l (hs : qSh g) {n1 i4 i3 i1 : Int32} (kk : ∀ I', (∀ b, b ≠ 118 → I' b = I b) → rFr I' (fun _ => none) → qev (d + 1) 257 (120, [.ref 105, .int i1, .int n1, .int i3, .int i4, .int (nI 0), qpad, qpad], [], g, I', J) Q) : ∀ (f j : Nat) (I' : qI), j + f = 24 → (∀ b, b ≠ 118 → I' b = I b) → (∀ k, k < j → I' 118 k = -1) → qev (d + 1) 257 (96, [.ref 105, .int i1, .int n1, .int i3, .int i4, .int (nI j), qpad, qpad], [], g, I', J) Q
  | 0, j, I', hj, hF, hN => w257_96 hs (brT (by rw [nI_leI (by omega) (by omega)]; omega) (kk I' hF (fun k hk => hN k (by omega))))
  | f + 1, j, I', hj, hF, hN => by
    refine w257_96 hs (brN (by rw [nI_leI (by omega) (by omega)]; omega) ⟨j, rfl, by omega, ?_⟩)
    rw [nI_add]
    refine r_none_l hs kk f (j + 1) _ (by omega) (fun b hb => by rw [zu_a hb]; exact hF b hb) (fun k hk => ?_)
    by_cases e : k = j
    · rw [e, zu_s]
    · rw [zu_k e]; exact hN k (by omega)
theorem xF_red {p w : Nat} {G : gd} {fr : Nat → Option Nat} (hp : 0 < p) (k : Nat) : 0 ≤ xF p w G fr k ∧ xF p w G fr k < p := by
  unfold xF
  split
  · split
    · exact ⟨Int.emod_nonneg _ (by omega), Int.emod_lt_of_pos _ (by omega)⟩
    · omega
  · omega
theorem r_brings (hs : qSh g) (hR : rR I p M) (hS : rS I 0 n c) (o1 : okS p n c) (h2 : 2 * w ≤ n)
    (k1 : ∀ I' x, eR I I' → sol p (n - w) w (rc c w) x → (∀ k, 0 ≤ x k ∧ x k < p) → (∀ k, w ≤ k → x k = 0) → rS I' 40 24 x → Q (some (.int (nI 1))) g I' J)
    (k0 : ∀ I', eR I I' → (∀ x, ¬ sol p (n - w) w (rc c w) x) → Q (some (.int (nI 0))) g I' J) : qC (d + 2) 257 [.ref 105, .int (nI w), .int (nI n)] g I J Q := by
  have h24 := o1.1
  have hp := hR.2.2.1.2
  have hp2 := hR.2.2.1.two
  refine w257 ?_
  rw [pk_sub (by omega)]
  refine r_rows_l hs hS o1 (show n - w ≤ 24 by omega) (show w < 25 by omega) (fun I1 v5 f1 G1 => ?_) (n - w) 0 I _ (by omega) (eF.refl I) (fun q k hq => absurd hq (by omega))
  refine w257_7 hs (brT (by rw [nI_leI (by omega) (by omega)]; omega) (r_blank hs (by omega) (by omega) (fun I2 b2 f2 => ⟨rfl, ?_⟩)))
  have hg : gred p (n - w) w (rc c w) := fun r k _ _ => by
    unfold rc
    split
    · exact o1.2.1 _
    · exact o1.2.1 _
  refine r_none_l hs (fun I3 f3 N3 => ?_) 24 0 I2 (by omega) (fun b _ => rfl) (fun k hk => absurd hk (by omega))
  have R3 : rR I3 p M := by
    have := (hR.ef f1).keep f2
    exact ⟨by rw [f3 105 (by omega)]; exact this.1, by rw [f3 105 (by omega)]; exact this.2.1, this.2.2⟩
  have G3 : rGd I3 (n - w) w (rc c w) := fun r k hr hk => by rw [f3 117 (by omega), f2.1 117 (by omega)]; exact G1 r k hr hk
  have e3 : eR I I3 := ⟨fun b b1 b2 b3 => by rw [f3 b b3, f2.1 b b1, f1 b b2], fun j hj => by rw [f3 115 (by omega), f2.2 j hj, f1 115 (by omega)]⟩
  have S3 : rS I3 40 24 (fun _ => 0) := ⟨by rw [f3 115 (by omega)]; exact b2.1, fun i hi => by rw [f3 115 (by omega)]; exact b2.2 i hi⟩
  refine r_cols_l hs R3 (show n - w ≤ 24 by omega) (show w < 25 by omega) (fun I4 G4 dn fr v6 v7 f4 g4 i4 r4 => ?_) w 0 I3 (rc c w) 0 (fun _ => none) _ _ (by omega) (fun _ _ _ => rfl) G3 (ge_0 hg) N3 (fun _ _ => rfl)
  have e4 : eR I I4 := ⟨fun b b1 b2 b3 => by rw [f4 b b2 b3, e3.1 b b1 b2 b3], fun j hj => by rw [f4 115 (by omega) (by omega), e3.2 j hj]⟩
  refine r_chk_l hs hp (show n - w ≤ 24 by omega) (show w < 25 by omega) g4 i4 (fun hno => k0 I4 e4 hno) (fun hz => ?_) (n - w - dn) dn (by have := i4.2.2.1; omega) (Nat.le_refl _) (fun o a b => absurd b (by omega))
  refine r_out_l hs (R3.ef2 f4) (show n - w ≤ 24 by omega) (show w ≤ 24 by omega) g4 i4 r4 (fun I5 f5 s5 => ?_) w 0 I4 (by omega) (rF.refl _ I4) ⟨by rw [f4 115 (by omega) (by omega)]; exact S3.1, fun i hi => by rw [f4 115 (by omega) (by omega), S3.2 i hi]; dsimp only; rw [if_neg (by omega)]⟩
  refine k1 I5 _ ⟨fun b b1 b2 b3 => by rw [f5.1 b b1, e4.1 b b1 b2 b3], fun j hj => by rw [f5.2 j hj, e4.2 j hj]⟩ (ge_yes hR.2.2.1 i4 hz _ (fun k hk => by unfold xF; rw [if_pos hk]; rfl)) (xF_red (by omega)) (fun k hk => by unfold xF; rw [if_neg (by omega)]) s5
end RBRING
