/-! calculating: products, inverses, derivatives .. of the class -/
theorem and1 {n : Nat} (h : n < 2 ^ 31) : nI n &&& nI 1 = nI (n % 2) := pk_andN (by omega) 1 (by decide +kernel)
theorem shr1 {n : Nat} (h : n < 2 ^ 31) : qshr (nI n) (nI 1) = nI (n / 2) := pk_shrN h (nI 1 &&& 31) 1 (by decide +kernel)
def mln (M n : Nat) (c : Nat → Int) (m : Nat) (e : Nat → Int) : Nat := min M (min (od n c + m) (od m e + n))
theorem cv_bd {p n m : Nat} {c e : Nat → Int} (h1 : okS p n c) (h2 : okS p m e) (hp : p < 998) (k : Nat) : 0 ≤ cv c e k ∧ cv c e k ≤ ((k + 1 : Nat) : Int) * (997 * 997) :=
  sm_bd (fun i _ => ⟨Int.mul_nonneg (h1.2.1 i).1 (h2.2.1 _).1, Int.mul_le_mul (by have := h1.2.1 i; omega) (by have := h2.2.1 (k - i); omega) (h2.2.1 _).1 (by omega)⟩)
theorem cv_bd' {p n m : Nat} {c e : Nat → Int} (h1 : okS p n c) (h2 : okS p m e) (hp : p < 998) {k : Nat} (hk : k < 24) : 0 ≤ cv c e k ∧ cv c e k < 2147483648 := by
  have h := cv_bd h1 h2 hp k
  refine ⟨h.1, Int.lt_of_le_of_lt h.2 ?_⟩
  have : ((k + 1 : Nat) : Int) * (997 * 997) ≤ 24 * (997 * 997) := Int.mul_le_mul_of_nonneg_right (by omega) (by omega)
  omega
theorem pw_em (a p : Int) (k : Nat) : (a % p) ^ k % p = a ^ k % p := by
  induction k with
  | zero => rw [Int.pow_zero, Int.pow_zero]
  | succ k ih => rw [Int.pow_succ, Int.pow_succ, em_r, ← em_l, ih, em_l]
section KALG
variable {d : Nat} {g : qG} {I : qI} {J : qJ} {Q : qQ} {p M n m x x1 x2 : Nat} {c e : Nat → Int}
/-- the sum at a place: what is left of it -/
theorem k_mul_i (hs : qSh g) (hx1 : qSer g x1) (hx2 : qSer g x2) {I' : qI} (hr : kR I' p M) {i3 i4 i5 i6 : Int32} {k last : Nat} (hk : k < 24) (hl : last ≤ k) (hln : last < n) (hc : ∀ i, i ≤ k → i < n → I' (x1 + 1) i = iI (c i)) (he : ∀ i, i ≤ k → i < m → I' (x2 + 1) i = iI (e i)) (h1 : okS p n c) (h2 : okS p m e) {lo : Nat} (hlo : k < lo + m) (hlo2 : lo < 1000)
    (kk : qev (d + 1) 9 (46, [.ref 12, .ref x1, .ref x2, .int i3, .int i4, .int i5, .int i6, .int (iI ((k : Int) - 1)), .int (iI (cv c e k)), .int (nI last), .int (nI (max lo (last + 1)))], [], g, qw I' (x1 + 1) k (iI (cv c e k % p)), J) Q) :
    ∀ r j S, lo ≤ j → j + r = max lo (last + 1) → S + sm (fun t => c (j + t) * e (k - (j + t))) (last + 1 - j) = cv c e k → qev (d + 1) 9 (78, [.ref 12, .ref x1, .ref x2, .int i3, .int i4, .int i5, .int i6, .int (nI k), .int (iI S), .int (nI last), .int (nI j)], [], g, I', J) Q
  | 0, j, S, hj, hjr, hS => by
    have hlt : j = max lo (last + 1) := by omega
    rw [show last + 1 - j = 0 by omega] at hS
    have hS' : S = cv c e k := by rw [← hS]; show S = S + 0; omega
    refine w9_78 hs hx1 hx2 ⟨fun _ => ⟨hr.nz, k, rfl, hk, ?_⟩, fun h3 => ?_⟩
    · rw [hS', hr.rem (cv_bd' h1 h2 hr.p2.2 hk), hlt, show nI k + (-1) = iI ((k : Int) - 1) by rw [nI_iI, iI_zm1, iI_add]; rfl]
      exact kk
    · rw [nI_ltI (by omega) (by omega)] at h3; omega
  | r + 1, j, S, hj, hjr, hS => by
    have hjl : j ≤ last := by omega
    refine w9_78 hs hx1 hx2 ⟨fun h3 => ?_, fun _ => ⟨j, rfl, by omega, k - j, pk_sub (by omega), by omega, ?_⟩⟩
    · rw [nI_ltI (by omega) (by omega)] at h3; omega
    · rw [hc j (by omega) (by omega), he (k - j) (by omega) (by omega), iI_mul, iI_add, nI_add]
      refine k_mul_i hs hx1 hx2 hr hk hl hln hc he h1 h2 hlo hlo2 kk r (j + 1) _ (by omega) (by omega) ?_
      rw [← hS, show last + 1 - j = last + 1 - (j + 1) + 1 by omega, sm_head, Nat.add_zero j]
      have : sm (fun t => c (j + 1 + t) * e (k - (j + 1 + t))) (last + 1 - (j + 1)) = sm (fun t => c (j + (t + 1)) * e (k - (j + (t + 1)))) (last + 1 - (j + 1)) := sm_congr (fun t _ => by rw [show j + 1 + t = j + (t + 1) by omega])
      rw [this]
      omega
theorem k_mul_o (hs : qSh g) (hx1 : qSer g x1) (hx2 : qSer g x2) (h13 : 13 < x1) (hd : x1 ≠ x2 + 1 ∧ x2 ≠ x1 + 1) (hr : kR I p M) (f1 : kS I x1 n c) (f2 : kS I x2 m e) (o1 : okS p n c) (o2 : okS p m e) (hn : 1 ≤ n) {len : Nat} (hlen : len ≤ 24)
    (k : ∀ I', dm I (x1 + 1) 0 len (fun i => iI (cv c e i % p)) I' → Q none g (qw I' x1 1 (nI len)) J) : ∀ (t : Nat) (I' : qI) (w8 w9 w10 : Value), t ≤ len → dm I (x1 + 1) t len (fun i => iI (cv c e i % p)) I' →
    qev (d + 1) 9 (46, [.ref 12, .ref x1, .ref x2, .int (nI (od n c)), .int (nI n), .int (nI m), .int (nI len), .int (iI ((t : Int) - 1)), w8, w9, w10], [], g, I', J) Q
  | 0, I', w8, w9, w10, ht, hD => by
    refine w9_46 hx1 hx2 ⟨fun _ => k I' hD, fun h3 => ?_⟩
    rw [iI_z0, iI_lt (by omega) (by omega)] at h3
    exact absurd h3 (by omega)
  | t + 1, I', w8, w9, w10, ht, hD => by
    have a1 := o1.1
    have a2 := o2.1
    have a3 := od_le n c
    have et : iI (((t + 1 : Nat) : Int) - 1) = nI t := by rw [nI_iI]; congr 1; omega
    have hr1 : kR I' p M := hr.frame (hD.1 12 (by omega))
    rw [et]
    refine w9_46 hx1 hx2 ⟨fun h3 => ?_, fun _ => ?_⟩
    · rw [← nI_0, nI_ltI (by omega) (by omega)] at h3; omega
    · have e1 : qmin (nI t) (nI n - nI 1) = nI (min t (n - 1)) := by rw [pk_sub hn, qmin_nI (by omega) (by omega)]
      have e2 : qmax (nI (od n c)) (nI t - nI m + nI 1) = nI (max (od n c) (t + 1 - m)) := by
        rw [nI_iI, nI_iI, nI_iI, nI_iI, iI_sub, iI_add, qmax_iI (by omega) (by omega), nI_iI]
        congr 1
        omega
      rw [e1, e2]
      refine k_mul_i (n := n) (m := m) (c := c) (e := e) (last := min t (n - 1)) (lo := max (od n c) (t + 1 - m)) hs hx1 hx2 hr1 (by omega) (by omega) (by omega) (fun i b1 b2 => ?_) (fun i b1 b2 => ?_) o1 o2 (by omega) (by omega) ?_ (max (max (od n c) (t + 1 - m)) (min t (n - 1) + 1) - max (od n c) (t + 1 - m)) _ 0 (Nat.le_refl _) (by omega) ?_
      · rw [hD.2.2 i (Or.inl (by omega))]; exact f1.2 i b2
      · by_cases hx : x2 + 1 = x1 + 1
        · rw [hx, hD.2.2 i (Or.inl (by omega)), ← hx]; exact f2.2 i b2
        · rw [hD.1 _ hx]; exact f2.2 i b2
      · exact k_mul_o hs hx1 hx2 h13 hd hr f1 f2 o1 o2 hn hlen k t _ _ _ _ (by omega) (dm_s hD (by omega) rfl)
      · rw [Int.zero_add]
        generalize hlo : max (od n c) (t + 1 - m) = lo
        have z1 : ∀ i, i < lo → i ≤ t → c i * e (t - i) = 0 := fun i b1 b2 => by
          by_cases h5 : i < od n c
          · rw [od_z h5, Int.zero_mul]
          · rw [o2.2.2 (t - i) (by omega), Int.mul_zero]
        have z2 : cv c e t = sm (fun i => c i * e (t - i)) (min t (n - 1) + 1) := sm_more (by omega) (fun i b1 b2 => by rw [o1.2.2 i (by omega), Int.zero_mul])
        by_cases h5 : lo ≤ min t (n - 1) + 1
        · rw [z2]
          obtain ⟨q, hq⟩ := Nat.exists_eq_add_of_le h5
          rw [hq, sm_split, sm_zero (fun i hi => z1 i (by omega) (by omega)), Int.zero_add, show lo + q - lo = q by omega]
        · rw [z2, show min t (n - 1) + 1 - lo = 0 by omega, sm_zero (fun i hi => z1 i (by omega) (by omega))]
          rfl
theorem k_mul (hs : qSh g) (hx1 : qSer g x1) (hx2 : qSer g x2) (h13 : 13 < x1) (hd : x1 ≠ x2 + 1 ∧ x2 ≠ x1 + 1) (hr : kR I p M) (f1 : kS I x1 n c) (f2 : kS I x2 m e) (o1 : okS p n c) (o2 : okS p m e) (hn : 1 ≤ n)
    (k : ∀ I', kS I' x1 (mln M n c m e) (zx p (mln M n c m e) (cv c e)) → (∀ b, b ≠ x1 → b ≠ x1 + 1 → I' b = I b) → Q none g I' J) : qC (d + 1) 9 [.ref 12, .ref x1, .ref x2] g I J Q := by
  have a1 := o1.1
  have a2 := o2.1
  have a3 := od_le n c
  have a4 := od_le m e
  have hM := hr.2.2.2.2
  refine w9 hs hx1 hx2 (k_first hx1 f1 o1 hr.p2.2 ⟨_, rfl, k_first hx2 f2 o2 hr.p2.2 ⟨_, rfl, ?_⟩⟩)
  rw [f1.1, f2.1, hr.2.1, nI_add, nI_add, qmin_nI (by omega) (by omega), qmin_nI (by omega) (by omega)]
  have hl : mln M n c m e ≤ 24 := by unfold mln; omega
  have h9 := k_mul_o (d := d) (Q := Q) (J := J) (len := mln M n c m e) hs hx1 hx2 h13 hd hr f1 f2 o1 o2 hn hl (fun I' hD => k _ ⟨zu_s, fun i hi => ?_⟩ (fun b b1 b2 => by rw [zu_a b1]; exact hD.1 b b2)) (mln M n c m e) I qpad qpad qpad (Nat.le_refl _) (dm_0 _ _ _ _)
  · rw [show iI ((mln M n c m e : Int) - 1) = nI (mln M n c m e) - nI 1 by rw [nI_iI, nI_iI, iI_sub]; rfl] at h9
    exact h9
  · rw [zu_a (by omega), hD.2.1 i (Nat.zero_le _) hi, zx_lt hi]
theorem k_scale_l (hs : qSh g) (hx : qSer g x) (h13 : 13 < x) (hr : kR I p M) {fac : Int} (hf : 0 ≤ fac ∧ fac ≤ 997) (h0 : kS I x n c) (o1 : okS p n c)
    (k : ∀ I', am I (x + 1) n (fun i => iI (c i * fac % p)) I' → Q none g I' J) : ∀ r i I', i + r = n → am I (x + 1) i (fun i => iI (c i * fac % p)) I' → qev d 19 (2, [.ref 12, .ref x, .int (iI fac), .int (nI i)], [], g, I', J) Q
  | 0, i, I', hi, hA => by
    have e0 : I' x 1 = nI n := by rw [hA.1 x (by omega)]; exact h0.1
    have := o1.1
    refine w19_2 hs hx ⟨fun _ => k I' ?_, fun h3 => ?_⟩
    · rw [← hi]; exact hA
    · rw [e0, nI_leI (by omega) (by omega)] at h3; omega
  | r + 1, i, I', hi, hA => by
    have e0 : I' x 1 = nI n := by rw [hA.1 x (by omega)]; exact h0.1
    have hr1 : kR I' p M := hr.frame (hA.1 12 (by omega))
    have := o1.1
    refine w19_2 hs hx ⟨fun h3 => ?_, fun _ => ⟨i, rfl, by omega, hr1.nz, i, rfl, by omega, ?_⟩⟩
    · rw [e0, nI_leI (by omega) (by omega)] at h3; omega
    · have a1 : I' (x + 1) i = iI (c i) := by rw [hA.2.2 i (Nat.le_refl _)]; exact h0.2 i (by omega)
      have b1 := o1.2.1 i
      have b3 := hr.p2
      have b4 : 0 ≤ c i * fac ∧ c i * fac ≤ 997 * 997 := ⟨Int.mul_nonneg b1.1 hf.1, Int.mul_le_mul (by omega) (by omega) hf.1 (by omega)⟩
      rw [nI_add, a1, iI_mul, hr1.rem (by omega)]
      exact k_scale_l hs hx h13 hr hf h0 o1 k r (i + 1) _ (by omega) (am_s hA rfl)
theorem k_scale (hs : qSh g) (hx : qSer g x) (h13 : 13 < x) (hr : kR I p M) {fac : Int} (hf : 0 ≤ fac ∧ fac ≤ 997) {w : Int32} (hw : w = iI fac) (h0 : kS I x n c) (o1 : okS p n c) (k : ∀ I', kS I' x n (zx p n (fun i => c i * fac)) → (∀ b, b ≠ x + 1 → I' b = I b) → Q none g I' J) : qC d 19 [.ref 12, .ref x, .int w] g I J Q := by
  subst hw
  refine w19 hx (k_scale_l hs hx h13 hr hf h0 o1 (fun I' hA => k I' ⟨by rw [hA.1 x (by omega)]; exact h0.1, fun i hi => by rw [hA.2.1 i hi, zx_lt hi]⟩ hA.1) n 0 I (by omega) (am_0 _ _ _))
theorem k_match_l (hs : qSh g) (hx1 : qSer g x1) (hx2 : qSer g x2) (hr : kR I p M) (h13 : 13 < x1) (hd : dj x1 x2) (h0 : I x1 1 = nI n) (hn : n ≤ 24) (hc : ∀ i, i < n → I (x1 + 1) i = iI (c i)) (he : ∀ i, i < n → I (x2 + 1) i = iI (e i)) (oc : ∀ i, 0 ≤ c i ∧ c i < p) (oe : ∀ i, 0 ≤ e i ∧ e i < p)
    (k : ∀ I', am I (x1 + 1) n (fun i => iI ((c i * e i) % p)) I' → Q none g I' J) : ∀ r i I', i + r = n → am I (x1 + 1) i (fun i => iI ((c i * e i) % p)) I' → qev (d + 1) 8 (10, [.ref 12, .ref x1, .ref x2, .int (nI i)], [], g, I', J) Q
  | 0, i, I', hi, hA => by
    have e0 : I' x1 1 = nI n := by rw [hA.1 x1 (by omega)]; exact h0
    refine w8_10 hs hx1 hx2 ⟨fun _ => k I' ?_, fun h3 => ?_⟩
    · rw [← hi]; exact hA
    · rw [e0, nI_leI (by omega) (by omega)] at h3; omega
  | r + 1, i, I', hi, hA => by
    have e0 : I' x1 1 = nI n := by rw [hA.1 x1 (by omega)]; exact h0
    have hr1 : kR I' p M := hr.frame (hA.1 12 (by omega))
    refine w8_10 hs hx1 hx2 ⟨fun h3 => ?_, fun _ => ⟨i, rfl, by omega, i, rfl, by omega, hr1.nz, i, rfl, by omega, ?_⟩⟩
    · rw [e0, nI_leI (by omega) (by omega)] at h3; omega
    · have a1 : I' (x1 + 1) i = iI (c i) := by rw [hA.2.2 i (Nat.le_refl _)]; exact hc i (by omega)
      have a2 : I' (x2 + 1) i = iI (e i) := by rw [hA.1 (x2 + 1) (by have := hd.1; omega)]; exact he i (by omega)
      have b1 := oc i
      have b2 := oe i
      have b3 := hr.p2
      have b4 : 0 ≤ c i * e i ∧ c i * e i ≤ 997 * 997 := ⟨Int.mul_nonneg b1.1 b2.1, Int.mul_le_mul (by omega) (by omega) b2.1 (by omega)⟩
      rw [nI_add, a1, a2, iI_mul, hr1.rem (by omega)]
      exact k_match_l hs hx1 hx2 hr h13 hd h0 hn hc he oc oe k r (i + 1) _ (by omega) (am_s hA rfl)
theorem k_match (hs : qSh g) (hx1 : qSer g x1) (hx2 : qSer g x2) (hr : kR I p M) (h13 : 13 < x1) (hd : dj x1 x2) (h1 : kS I x1 n c) (h2 : kS I x2 m e) (o1 : okS p n c) (o2 : okS p m e)
    (k : ∀ I', kS I' x1 (min n m) (zx p (min n m) (fun i => c i * e i)) → (∀ b, b ≠ x1 → b ≠ x1 + 1 → I' b = I b) → Q none g I' J) : qC (d + 1) 8 [.ref 12, .ref x1, .ref x2] g I J Q := by
  have hn := o1.1
  have hm := o2.1
  refine w8 hx1 hx2 (k_short hx1 h1 hn h2.1 (by omega) (fun I1 h3 h4 => ⟨rfl, ?_⟩))
  have hr1 : kR I1 p M := hr.frame (h4 12 (by omega))
  refine k_match_l (n := min n m) (c := c) (e := e) hs hx1 hx2 hr1 h13 hd h3.1 (by omega) (fun i hi => by rw [h4 _ (by omega)]; exact h1.2 i (by omega)) (fun i hi => by rw [h4 _ (by have := hd; unfold dj at this; omega)]; exact h2.2 i (by omega)) o1.2.1 o2.2.1 (fun I' hA => k I' ⟨?_, fun i hi => ?_⟩ (fun b a1 a2 => by rw [hA.1 b a2]; exact h4 b a1)) (min n m) 0 _ (by omega) (am_0 _ _ _)
  · rw [hA.1 x1 (by omega)]; exact h3.1
  · rw [hA.2.1 i hi, zx_lt hi]
/-- by Fermat -/
theorem k_inv_l (hs : qSh g) (hr : kR I p M) {i1 : Int32} {V : Int} (k : Q (some (.int (iI V))) g I J) : ∀ (f rest : Nat) (a s : Int), rest < f → rest < 1000 → 0 ≤ a ∧ a < p → 0 ≤ s ∧ s < p → a * s ^ rest % p = V → qev d 3 (17, [.ref 12, .int i1, .int (iI a), .int (iI s), .int (nI rest)], [], g, I, J) Q
  | 0, rest, a, s, hf, _, _, _, _ => absurd hf (Nat.not_lt_zero _)
  | f + 1, rest, a, s, hf, hb, ha, hs2, hV => by
    have h2 := hr.p2
    refine w3_17 hs ⟨fun h3 => ?_, fun h3 => ⟨fun h4 => ⟨hr.nz, hr.nz, ?_⟩, fun h4 => ⟨hr.nz, ?_⟩⟩⟩
    · rw [← nI_0, nI_leI (by omega) (by omega)] at h3
      rw [show rest = 0 by omega, Int.pow_zero, Int.mul_one, Int.emod_eq_of_lt ha.1 ha.2] at hV
      rw [hV]; exact k
    · rw [← nI_0, nI_leI (by omega) (by omega)] at h3
      rw [and1 (by omega), nI_eq (by omega) (by omega)] at h4
      have b1 : 0 ≤ a * s ∧ a * s ≤ 997 * 997 := ⟨Int.mul_nonneg ha.1 hs2.1, Int.mul_le_mul (by omega) (by omega) hs2.1 (by omega)⟩
      have b2 : 0 ≤ s * s ∧ s * s ≤ 997 * 997 := ⟨Int.mul_nonneg hs2.1 hs2.1, Int.mul_le_mul (by omega) (by omega) hs2.1 (by omega)⟩
      rw [iI_mul, iI_mul, hr.rem (by omega), hr.rem (by omega), shr1 (by omega)]
      refine k_inv_l hs hr k f (rest / 2) _ _ (by omega) (by omega) ⟨Int.emod_nonneg _ (by omega), Int.emod_lt_of_pos _ (by omega)⟩ ⟨Int.emod_nonneg _ (by omega), Int.emod_lt_of_pos _ (by omega)⟩ ?_
      rw [em_l, ← em_r, pw_em, em_r, ← hV]
      congr 1
      conv => rhs; rw [show rest = 2 * (rest / 2) + 1 by omega, Int.pow_succ, Int.pow_mul]
      rw [show s ^ 2 = s * s by rw [Int.pow_succ, Int.pow_succ, Int.pow_zero, Int.one_mul], Int.mul_assoc, Int.mul_comm s]
    · rw [← nI_0, nI_leI (by omega) (by omega)] at h3
      rw [and1 (by omega), nI_eq (by omega) (by omega)] at h4
      have b2 : 0 ≤ s * s ∧ s * s ≤ 997 * 997 := ⟨Int.mul_nonneg hs2.1 hs2.1, Int.mul_le_mul (by omega) (by omega) hs2.1 (by omega)⟩
      rw [iI_mul, hr.rem (by omega), shr1 (by omega)]
      refine k_inv_l hs hr k f (rest / 2) _ _ (by omega) (by omega) ha ⟨Int.emod_nonneg _ (by omega), Int.emod_lt_of_pos _ (by omega)⟩ ?_
      rw [← em_r, pw_em, em_r, ← hV]
      congr 1
      conv => rhs; rw [show rest = 2 * (rest / 2) by omega, Int.pow_mul]
      rw [show s ^ 2 = s * s by rw [Int.pow_succ, Int.pow_succ, Int.pow_zero, Int.one_mul]]
theorem k_inv (hs : qSh g) (hr : kR I p M) {v : Int} (hv : 0 ≤ v ∧ v < 2147483648) {w : Int32} (hw : w = iI v) (k : Q (some (.int (iI (iv p (v % p))))) g I J) : qC d 3 [.ref 12, .int w] g I J Q := by
  subst hw
  have h2 := hr.p2
  refine w3 hs ⟨hr.nz, ?_⟩
  rw [hr.rem hv, hr.1, show iI (p : Int) - nI 2 = nI (p - 2) by rw [nI_iI, nI_iI, iI_sub]; congr 1; omega, show nI 1 = iI 1 from nI_iI 1]
  refine k_inv_l hs hr k (p - 2 + 1) (p - 2) 1 (v % p) (by omega) (by omega) (by omega) ⟨Int.emod_nonneg _ (by omega), Int.emod_lt_of_pos _ (by omega)⟩ ?_
  unfold iv
  rw [Int.one_mul]
end KALG
