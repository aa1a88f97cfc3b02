/-! the reference: whether a RECURRENCE of an order is there -/
def frV (o : Option Nat) : Int32 := match o with
  | some r => nI r
  | none => -1
def rFr (I : qI) (fr : Nat → Option Nat) : Prop := ∀ c, c < 24 → I 118 c = frV (fr c)
def eF2 (I I' : qI) : Prop := ∀ b, b ≠ 117 → b ≠ 118 → I' b = I b
theorem eF2.trans {I I1 I2 : qI} (h : eF2 I I1) (h2 : eF2 I1 I2) : eF2 I I2 := fun b b1 b2 => by rw [h2 b b1 b2, h b b1 b2]
theorem eF.f2 {I I' : qI} (h : eF I I') : eF2 I I' := fun b b1 _ => h b b1
theorem rR.ef2 {I I' : qI} {p M : Nat} (h : rR I p M) (f : eF2 I I') : rR I' p M := ⟨by rw [f 105 (by omega) (by omega)]; exact h.1, by rw [f 105 (by omega) (by omega)]; exact h.2.1, h.2.2⟩
section RELIM2
variable {d : Nat} {g : qG} {I : qI} {J : qJ} {Q : qQ} {p M m w : Nat} {G G0 : gd}
theorem r_piv_l (hs : qSh g) (hR : rR I p M) (hm : m ≤ 24) (hw : w < 25) (hG : rGd I m w G) {k dn : Nat} {fr : Nat → Option Nat} (hk : k < w) (hI : geI p m w k dn fr G0 G) (hfr : rFr I fr) (hno : ∀ c, k ≤ c → fr c = none) {n1 : Int32}
    (kk : ∀ I' G2 dn2 fr2 v6 v7, eF2 I I' → rGd I' m w G2 → geI p m w (k + 1) dn2 fr2 G0 G2 → rFr I' fr2 → (∀ c, k + 1 ≤ c → fr2 c = none) → qev (d + 2) 257 (120, [.ref 105, .int (nI w), .int n1, .int (nI m), .int (nI dn2), .int (nI (k + 1)), v6, v7], [], g, I', J) Q) : ∀ (n r : Nat) (v7 : Value), r + n = m → dn ≤ r → (∀ o, dn ≤ o → o < r → G o k = 0) → qev (d + 2) 257 (130, [.ref 105, .int (nI w), .int n1, .int (nI m), .int (nI dn), .int (nI k), .int (nI r), v7], [], g, I, J) Q
  | 0, r, v7, hn, hd, hz => by
    have hrm : r = m := by omega
    subst hrm
    refine w257_130 hs (brT (by rw [nI_leI (by omega) (by omega)]; omega) (brT rfl ?_))
    rw [nI_add]
    exact kk I G dn fr _ _ (fun _ _ _ => rfl) hG (ge_none hI hz (hno k (Nat.le_refl _)) (fun c _ => rfl)) hfr (fun c hc => hno c (by omega))
  | n + 1, r, v7, hn, hd, hz => by
    have b1 := hI.2.1 r k (by omega) (by omega)
    have hp := hR.2.2.1.2
    have hdm := hI.2.2.1
    refine w257_130 hs (brN (by rw [nI_leI (by omega) (by omega)]; omega) (r_grid hs hG hm hw (show r < m by omega) (show k ≤ w by omega) rfl rfl ⟨_, rfl, ?_⟩))
    rw [iI_z0, iI_eq (by omega) (by omega)]
    by_cases h0 : G r k = 0
    · refine brT h0 ?_
      rw [nI_add]
      refine r_piv_l hs hR hm hw hG hk hI hfr hno kk n (r + 1) v7 (by omega) (by omega) (fun o a b => ?_)
      by_cases e : o = r
      · rw [e]; exact h0
      · exact hz o a (by omega)
    · refine brN h0 (brN (by rw [nI_eq (by omega) (by omega)]; omega) (r_changes hs hm hw hG (show dn < m by omega) (show r < m by omega) (fun I1 f1 G1 => ⟨rfl, ?_⟩)))
      have e1 : ∀ c, gsw G dn r dn c = G r c := fun c => by unfold gsw; rw [if_pos rfl]
      refine r_col_l hs (hR.ef f1) hm hw hk (show dn < m by omega) (fun c hc => by rw [e1]; exact ge_below hI hc hd (by omega)) (by rw [e1]; exact h0) (fun I2 G2 f2 g2 c2 => ?_) m 0 I1 _ (by omega) (eF.refl I1) G1 (cl_0 (gsw_red (by omega) (by omega) hI.2.1))
      refine kk _ G2 (dn + 1) (fun c => if c = k then some dn else fr c) _ _ ((f1.trans f2).f2.trans (fun b _ hb => zu_a hb)) (fun q c hq hc => by rw [zu_a (by omega)]; exact g2 q c hq hc) (ge_some hI hd (by omega) hk h0 c2 (if_pos rfl) (fun c hc => if_neg (by omega))) (fun c hc => ?_) (fun c hc => by rw [if_neg (by omega)]; exact hno c (by omega))
      by_cases e : c = k
      · rw [e, zu_s]; dsimp only; rw [if_pos rfl]; rfl
      · rw [zu_k e, f2 118 (by omega), f1 118 (by omega), hfr c hc]; dsimp only; rw [if_neg e]
theorem r_cols_l (hs : qSh g) (hR : rR I p M) (hm : m ≤ 24) (hw : w < 25) {n1 : Int32}
    (kk : ∀ I' G2 dn2 fr2 v6 v7, eF2 I I' → rGd I' m w G2 → geI p m w w dn2 fr2 G0 G2 → rFr I' fr2 → qev (d + 2) 257 (237, [.ref 105, .int (nI w), .int n1, .int (nI m), .int (nI dn2), .int (nI dn2), v6, v7], [], g, I', J) Q) : ∀ (n k : Nat) (I' : qI) (G : gd) (dn : Nat) (fr : Nat → Option Nat) (v6 v7 : Value), k + n = w → eF2 I I' → rGd I' m w G → geI p m w k dn fr G0 G → rFr I' fr → (∀ c, k ≤ c → fr c = none) → qev (d + 2) 257 (120, [.ref 105, .int (nI w), .int n1, .int (nI m), .int (nI dn), .int (nI k), v6, v7], [], g, I', J) Q
  | 0, k, I', G, dn, fr, v6, v7, hn, hF, hG, hI, hfr, hno => by
    have hkw : k = w := by omega
    subst hkw
    exact w257_120 (brT (by rw [nI_leI (by omega) (by omega)]; omega) (kk I' G dn fr _ _ hF hG hI hfr))
  | n + 1, k, I', G, dn, fr, v6, v7, hn, hF, hG, hI, hfr, hno => by
    have hdm := hI.2.2.1
    refine w257_120 (brN (by rw [nI_leI (by omega) (by omega)]; omega) ?_)
    exact r_piv_l hs (hR.ef2 hF) hm hw hG (show k < w by omega) hI hfr hno (fun I2 G2 dn2 fr2 u6 u7 f2 g2 i2 r2 o2 => r_cols_l hs hR hm hw kk n (k + 1) I2 G2 dn2 fr2 u6 u7 (by omega) (hF.trans f2) g2 i2 r2 o2) (m - dn) dn v7 (by omega) (Nat.le_refl _) (fun o a b => absurd b (by omega))
theorem r_chk_l (hs : qSh g) (hp : p < 998) (hm : m ≤ 24) (hw : w < 25) (hG : rGd I m w G) {dn : Nat} {fr : Nat → Option Nat} (hI : geI p m w w dn fr G0 G) {n1 : Int32} {v6 v7 : Value} (k0 : (∀ x, ¬ sol p m w G0 x) → Q (some (.int (nI 0))) g I J) (k1 : (∀ r, dn ≤ r → r < m → G r w = 0) → qev (d + 2) 257 (264, [.ref 105, .int (nI w), .int n1, .int (nI m), .int (nI dn), .int (nI 0), v6, v7], [], g, I, J) Q) : ∀ (n r : Nat), r + n = m → dn ≤ r → (∀ o, dn ≤ o → o < r → G o w = 0) → qev (d + 2) 257 (237, [.ref 105, .int (nI w), .int n1, .int (nI m), .int (nI dn), .int (nI r), v6, v7], [], g, I, J) Q
  | 0, r, hn, hd, hz => by
    have hrm : r = m := by omega
    subst hrm
    exact w257_237 hs (brT (by rw [nI_leI (by omega) (by omega)]; omega) (k1 hz))
  | n + 1, r, hn, hd, hz => by
    have b1 := hI.2.1 r w (by omega) (Nat.le_refl _)
    refine w257_237 hs (brN (by rw [nI_leI (by omega) (by omega)]; omega) (r_grid hs hG hm hw (show r < m by omega) (Nat.le_refl w) rfl rfl ⟨_, rfl, ?_⟩))
    rw [iI_z0, iI_eq (by omega) (by omega)]
    by_cases h0 : G r w = 0
    · refine brT h0 ?_
      rw [nI_add]
      refine r_chk_l hs hp hm hw hG hI k0 k1 n (r + 1) (by omega) (by omega) (fun o a b => ?_)
      by_cases e : o = r
      · rw [e]; exact h0
      · exact hz o a (by omega)
    · exact brN h0 (k0 (ge_no hI hd (by omega) h0))
/-- what is answered, from the grid -/
def xF (p w : Nat) (G : gd) (fr : Nat → Option Nat) (k : Nat) : Int := if k < w then (match fr k with | some r => G r w * iv p (G r k) % p | none => 0) else 0
theorem r_out_l (hs : qSh g) (hR : rR I p M) (hm : m ≤ 24) (hw : w ≤ 24) (hG : rGd I m w G) {dn : Nat} {fr : Nat → Option Nat} (hI : geI p m w w dn fr G0 G) (hfr : rFr I fr) {n1 : Int32} {v6 v7 : Value} (kk : ∀ I', rF (fun q => q = 40) I I' → rS I' 40 24 (xF p w G fr) → Q (some (.int (nI 1))) g I' J) : ∀ (n k : Nat) (I' : qI), k + n = w → rF (fun q => q = 40) I I' → rS I' 40 24 (fun i => if i < k then xF p w G fr i else 0) → qev (d + 2) 257 (264, [.ref 105, .int (nI w), .int n1, .int (nI m), .int (nI dn), .int (nI k), v6, v7], [], g, I', J) Q
  | 0, k, I', hn, hF, hS => by
    have hkw : k = w := by omega
    subst hkw
    refine w257_264 hs (brT (by rw [nI_leI (by omega) (by omega)]; omega) (kk I' hF ⟨hS.1, fun i hi => ?_⟩))
    rw [hS.2 i hi]
    dsimp only
    by_cases h : i < k
    · rw [if_pos h]
    · rw [if_neg h]
      unfold xF
      rw [if_neg h]
  | n + 1, k, I', hn, hF, hS => by
    have hp := hR.2.2.1.2
    have hp2 := hR.2.2.1.two
    have e118 : I' 118 k = frV (fr k) := by rw [hF.1 118 (by omega)]; exact hfr k (by omega)
    have hG' : rGd I' m w G := fun q c hq hc => by rw [hF.1 117 (by omega)]; exact hG q c hq hc
    refine w257_264 hs (brN (by rw [nI_leI (by omega) (by omega)]; omega) ⟨k, rfl, by omega, ?_⟩)
    rw [e118, nI_add]
    cases hk : fr k with
    | none =>
      refine brT rfl (r_out_l hs hR hm hw hG hI hfr kk n (k + 1) I' (by omega) hF ⟨hS.1, fun i hi => ?_⟩)
      rw [hS.2 i hi]
      dsimp only
      by_cases h : i < k
      · rw [if_pos h, if_pos (by omega)]
      · rw [if_neg h]
        by_cases h2 : i < k + 1
        · rw [if_pos h2, show i = k by omega]
          unfold xF
          rw [if_pos (by omega), hk]
        · rw [if_neg h2]
    | some r =>
      obtain ⟨r1, r2, r3⟩ := hI.2.2.2.1 k r (by omega) hk
      have hdm := hI.2.2.1
      have b1 := hI.2.1 r w (by omega) (Nat.le_refl _)
      have b2 := hI.2.1 r k (by omega) (by omega)
      have b3 := iv_red (p := p) (by omega) (G r k)
      have b4 : 0 ≤ G r w * iv p (G r k) ∧ G r w * iv p (G r k) ≤ 997 * 997 := ⟨Int.mul_nonneg b1.1 b3.1, Int.mul_le_mul (by omega) (by omega) b3.1 (by omega)⟩
      refine brN (m1_ne (show r < 2 ^ 31 by omega)) ⟨k, rfl, by omega, ?_⟩
      rw [e118, hk]
      refine r_grid hs hG' hm (by omega) (show r < m by omega) (Nat.le_refl w) rfl rfl ⟨_, rfl, k, rfl, by omega, ?_⟩
      rw [e118, hk]
      refine r_grid hs hG' hm (by omega) (show r < m by omega) (show k ≤ w by omega) rfl rfl ⟨_, rfl, r_inv hs (hR.keep hF) b2 ⟨_, rfl, r_by hs (hR.keep hF) (z := G r w * iv p (G r k)) (by omega) (by rw [iI_l (by omega), iI_l (by omega), iL_mul]) ⟨_, rfl, r_set hs (by omega) (show k < 24 by omega) rfl ⟨rfl, ?_⟩⟩⟩⟩
      refine r_out_l hs hR hm hw hG hI hfr kk n (k + 1) _ (by omega) (hF.trans ⟨fun b hb => zu_a hb, fun j hj => by rw [zu_k (fun e => hj (by omega))]⟩) ?_
      have h9 := rS_set (k := k) (v := G r w * iv p (G r k) % p) hS
      refine ⟨h9.1, fun i hi => ?_⟩
      rw [h9.2 i hi]
      congr 1
      dsimp only
      by_cases h : i = k
      · rw [if_pos h, if_pos (by omega), h]
        unfold xF
        rw [if_pos (by omega), hk]
      · rw [if_neg h]
        by_cases h2 : i < k
        · rw [if_pos h2, if_pos (by omega)]
        · rw [if_neg h2, if_neg (by omega)]
end RELIM2
