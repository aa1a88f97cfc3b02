/-! the reference eliminates -/
def rGd (I : qI) (m w : Nat) (G : gd) : Prop := ∀ r k, r < m → k ≤ w → I 117 (25 * r + k) = iI (G r k)
def eF (I I' : qI) : Prop := ∀ b, b ≠ 117 → I' b = I b
theorem eF.refl (I : qI) : eF I I := fun _ _ => rfl
theorem eF.trans {I I1 I2 : qI} (h : eF I I1) (h2 : eF I1 I2) : eF I I2 := fun b hb => by rw [h2 b hb, h b hb]
theorem rR.ef {I I' : qI} {p M : Nat} (h : rR I p M) (f : eF I I') : rR I' p M := ⟨by rw [f 105 (by omega)]; exact h.1, by rw [f 105 (by omega)]; exact h.2.1, h.2.2⟩
theorem rGd.set {I : qI} {m w r k : Nat} {G : gd} {v : Int} (h : rGd I m w G) (hk : k ≤ w) (hw : w < 25) : rGd (qw I 117 (25 * r + k) (iI v)) m w (fun q c => if q = r ∧ c = k then v else G q c) := fun q c hq hc => by
  dsimp only
  by_cases hh : q = r ∧ c = k
  · rw [if_pos hh, hh.1, hh.2, zu_s]
  · rw [if_neg hh, zu_k (by omega)]
    exact h q c hq hc
theorem rGd.ext {I : qI} {m w : Nat} {G H : gd} (h : rGd I m w G) (e : ∀ r k, r < m → k ≤ w → G r k = H r k) : rGd I m w H := fun r k hr hk => by rw [h r k hr hk, e r k hr hk]
section RELIM
variable {d : Nat} {g : qG} {I : qI} {J : qJ} {Q : qQ} {p M m w : Nat} {G : gd}
theorem r_grid (hs : qSh g) (hG : rGd I m w G) (hm : m ≤ 24) (hw : w < 25) {r k : Nat} (hr : r < m) (hk : k ≤ w) {u v : Int32} (hu : u = nI r) (hv : v = nI k) (kk : Q (some (.int (iI (G r k)))) g I J) : qC d 254 [.ref 105, .int u, .int v] g I J Q := by
  subst hu hv
  exact w254 hs ⟨25 * r + k, by rw [pk_mul, nI_add], by omega, by rw [hG r k hr hk]; exact kk⟩
theorem r_clears_l (hs : qSh g) (hR : rR I p M) (hm : m ≤ 24) (hw : w < 25) (hg : gred p m w G) {r o c : Nat} {f : Int} (hr : r < m) (ho : o < m) (hro : o ≠ r) (hf : 0 ≤ f ∧ f < p) (kk : ∀ I', eF I I' → rGd I' m w (gcl p w G r o f) → Q none g I' J) : ∀ (n j : Nat) (I' : qI), j + n = w + 1 → eF I I' → rGd I' m w (fun q k => if q = o ∧ k < j then (G o k - f * G r k) % p else G q k) → qev (d + 1) 255 (28, [.ref 105, .int (nI r), .int (nI o), .int (nI c), .int (nI w), .int (iI f), .int (nI j)], [], g, I', J) Q
  | 0, j, I', hj, hF, hG => by
    refine w255_28 hs (brT (by rw [nI_ltI (by omega) (by omega)]; omega) (kk I' hF (hG.ext (fun q k hq hk => ?_))))
    unfold gcl
    by_cases hh : q = o
    · rw [if_pos ⟨hh, by omega⟩, if_pos ⟨hh, hk⟩]
    · rw [if_neg (fun h => hh h.1), if_neg (fun h => hh h.1)]
  | n + 1, j, I', hj, hF, hG => by
    have hp := hR.2.2.1.2
    refine w255_28 hs (brN (by rw [nI_ltI (by omega) (by omega)]; omega) ?_)
    refine r_grid hs hG hm hw ho (show j ≤ w by omega) rfl rfl ⟨_, rfl, r_grid hs hG hm hw hr (show j ≤ w by omega) rfl rfl ⟨_, rfl, ?_⟩⟩
    rw [if_neg (fun h => by omega), if_neg (fun h => hro h.1.symm)]
    have b1 := hg o j ho (by omega)
    have b2 := hg r j hr (by omega)
    have b3 : 0 ≤ f * G r j ∧ f * G r j ≤ 997 * 997 := ⟨Int.mul_nonneg hf.1 b2.1, Int.mul_le_mul (by omega) (by omega) b2.1 (by omega)⟩
    refine r_by hs (hR.ef hF) (z := G o j - f * G r j) (by omega) (by rw [iI_l (by omega), iI_l (by omega), iI_l (by omega), iL_mul, iL_sub]) ⟨_, rfl, 25 * o + j, by rw [pk_mul, nI_add], by omega, ?_⟩
    rw [nI_add]
    refine r_clears_l hs hR hm hw hg hr ho hro hf kk n (j + 1) _ (by omega) (hF.trans (fun b hb => zu_a hb)) ((hG.set (by omega) hw).ext (fun q k hq hk => ?_))
    by_cases h1 : q = o ∧ k = j
    · rw [if_pos h1, if_pos ⟨h1.1, by omega⟩, h1.2]
    · rw [if_neg h1]
      by_cases h2 : q = o ∧ k < j
      · rw [if_pos h2, if_pos ⟨h2.1, by omega⟩]
      · rw [if_neg h2, if_neg (fun h => h2 ⟨h.1, by have : k ≠ j := fun e => h1 ⟨h.1, e⟩; omega⟩)]
theorem r_clears (hs : qSh g) (hR : rR I p M) (hm : m ≤ 24) (hw : w < 25) (hg : gred p m w G) (hG : rGd I m w G) {r o c : Nat} (hr : r < m) (ho : o < m) (hro : o ≠ r) (hc : c ≤ w) (kk : ∀ I', eF I I' → rGd I' m w (gcl p w G r o (G o c * iv p (G r c) % p)) → Q none g I' J) : qC (d + 1) 255 [.ref 105, .int (nI r), .int (nI o), .int (nI c), .int (nI w)] g I J Q := by
  have hp := hR.2.2.1.2
  have hp2 := hR.2.2.1.two
  have b1 := hg o c ho hc
  have b2 := hg r c hr hc
  have b3 := iv_red (p := p) (by omega) (G r c)
  have b4 : 0 ≤ G o c * iv p (G r c) ∧ G o c * iv p (G r c) ≤ 997 * 997 := ⟨Int.mul_nonneg b1.1 b3.1, Int.mul_le_mul (by omega) (by omega) b3.1 (by omega)⟩
  refine w255 hs (r_grid hs hG hm hw ho hc rfl rfl ⟨_, rfl, r_grid hs hG hm hw hr hc rfl rfl ⟨_, rfl, r_inv hs hR b2 ⟨_, rfl, r_by hs hR (z := G o c * iv p (G r c)) (by omega) (by rw [iI_l (by omega), iI_l (by omega), iL_mul]) ⟨_, rfl, ?_⟩⟩⟩⟩)
  exact r_clears_l hs hR hm hw hg hr ho hro ⟨Int.emod_nonneg _ (by omega), Int.emod_lt_of_pos _ (by omega)⟩ kk (w + 1) 0 I (by omega) (eF.refl I) (hG.ext (fun q k _ _ => by rw [if_neg (fun h => by omega)]))
theorem r_changes_l (hs : qSh g) (hm : m ≤ 24) (hw : w < 25) {a b : Nat} (ha : a < m) (hb : b < m) (kk : ∀ I', eF I I' → rGd I' m w (gsw G a b) → Q none g I' J) : ∀ (n j : Nat) (I' : qI) (v5 : Value), j + n = w + 1 → eF I I' → rGd I' m w (fun q k => if k < j then gsw G a b q k else G q k) → qev (d + 1) 256 (3, [.ref 105, .int (nI a), .int (nI b), .int (nI w), .int (nI j), v5], [], g, I', J) Q
  | 0, j, I', v5, hj, hF, hG => w256_3 hs (brT (by rw [nI_ltI (by omega) (by omega)]; omega) (kk I' hF (hG.ext (fun q k hq hk => by rw [if_pos (by omega)]))))
  | n + 1, j, I', v5, hj, hF, hG => by
    refine w256_3 hs (brN (by rw [nI_ltI (by omega) (by omega)]; omega) ?_)
    refine r_grid hs hG hm hw ha (show j ≤ w by omega) rfl rfl ⟨_, rfl, r_grid hs hG hm hw hb (show j ≤ w by omega) rfl rfl ⟨_, rfl, 25 * a + j, by rw [pk_mul, nI_add], by omega, 25 * b + j, by rw [pk_mul, nI_add], by omega, ?_⟩⟩
    rw [if_neg (by omega), if_neg (by omega), nI_add]
    refine r_changes_l hs hm hw ha hb kk n (j + 1) _ _ (by omega) (hF.trans (fun b hb => by rw [zu_a hb, zu_a hb])) (((hG.set (by omega) hw).set (by omega) hw).ext (fun q k hq hk => ?_))
    unfold gsw
    by_cases h1 : q = b ∧ k = j
    · rw [if_pos h1, if_pos (by omega), h1.1, h1.2]
      by_cases h3 : b = a
      · rw [if_pos h3, h3]
      · rw [if_neg h3, if_pos rfl]
    · rw [if_neg h1]
      by_cases h2 : q = a ∧ k = j
      · rw [if_pos h2, if_pos (by omega), if_pos h2.1, h2.2]
      · rw [if_neg h2]
        by_cases h3 : k < j
        · rw [if_pos h3, if_pos (show k < j + 1 by omega)]
        · rw [if_neg h3]
          by_cases h4 : k < j + 1
          · have hkj : k = j := by omega
            rw [if_pos h4, if_neg (fun e => h2 ⟨e, hkj⟩), if_neg (fun e => h1 ⟨e, hkj⟩)]
          · rw [if_neg h4]
theorem r_changes (hs : qSh g) (hm : m ≤ 24) (hw : w < 25) (hG : rGd I m w G) {a b : Nat} (ha : a < m) (hb : b < m) (kk : ∀ I', eF I I' → rGd I' m w (gsw G a b) → Q none g I' J) : qC (d + 1) 256 [.ref 105, .int (nI a), .int (nI b), .int (nI w)] g I J Q :=
  w256 (r_changes_l hs hm hw ha hb kk (w + 1) 0 I _ (by omega) (eF.refl I) (hG.ext (fun q k _ _ => by rw [if_neg (by omega)])))
/-- the rows of a column, cleared by the row dn -/
theorem r_col_l (hs : qSh g) (hR : rR I p M) (hm : m ≤ 24) (hw : w < 25) {k dn : Nat} (hk : k < w) (hd : dn < m) (hz : ∀ c, c < k → G dn c = 0) (hpv : G dn k ≠ 0) {n1 i6 : Int32} (kk : ∀ I' G2, eF I I' → rGd I' m w G2 → clI p m w k dn m G G2 → qev (d + 2) 257 (120, [.ref 105, .int (nI w), .int n1, .int (nI m), .int (nI (dn + 1)), .int (nI (k + 1)), .int i6, .int (nI m)], [], g, qw I' 118 k (nI dn), J) Q) : ∀ (n o : Nat) (I' : qI) (G' : gd), o + n = m → eF I I' → rGd I' m w G' → clI p m w k dn o G G' → qev (d + 2) 257 (174, [.ref 105, .int (nI w), .int n1, .int (nI m), .int (nI dn), .int (nI k), .int i6, .int (nI o)], [], g, I', J) Q
  | 0, o, I', G', hn, hF, hG, hc => by
    have ho : o = m := by omega
    subst ho
    refine w257_174 hs (brT (by rw [nI_leI (by omega) (by omega)]; omega) ⟨k, rfl, by omega, ?_⟩)
    rw [nI_add, nI_add]
    exact kk I' G' hF hG hc
  | n + 1, o, I', G', hn, hF, hG, hc => by
    refine w257_174 hs (brN (by rw [nI_leI (by omega) (by omega)]; omega) ?_)
    rw [nI_eq (by omega) (by omega), nI_add]
    have b1 := hc.2.1 o k (by omega) (by omega)
    have hp := hR.2.2.1.2
    by_cases h1 : o = dn
    · exact brT h1 (r_col_l hs hR hm hw hk hd hz hpv kk n (o + 1) I' G' (by omega) hF hG (cl_skip hc (Or.inl h1)))
    · refine brN h1 (r_grid hs hG hm hw (show o < m by omega) (show k ≤ w by omega) rfl rfl ⟨_, rfl, ?_⟩)
      rw [iI_z0, iI_eq (by omega) (by omega)]
      by_cases h2 : G' o k = 0
      · exact brT h2 (r_col_l hs hR hm hw hk hd hz hpv kk n (o + 1) I' G' (by omega) hF hG (cl_skip hc (Or.inr h2)))
      · refine brN h2 (r_clears hs (hR.ef hF) hm hw hc.2.1 hG hd (show o < m by omega) h1 (show k ≤ w by omega) (fun I2 f2 G2 => ⟨rfl, ?_⟩))
        exact r_col_l hs hR hm hw hk hd hz hpv kk n (o + 1) I2 _ (by omega) (hF.trans f2) G2 (cl_do hR.2.2.1 hc hk hd (by omega) h1 hz hpv)
end RELIM
