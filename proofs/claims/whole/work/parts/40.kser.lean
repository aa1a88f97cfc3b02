/-! SERIES of the class: pictures -/
def kS (I : qI) (a n : Nat) (c : Nat → Int) : Prop := I a 1 = nI n ∧ ∀ i, i < n → I (a + 1) i = iI (c i)
def okS (p n : Nat) (c : Nat → Int) : Prop := n ≤ 24 ∧ (∀ i, 0 ≤ c i ∧ c i < p) ∧ ∀ i, n ≤ i → c i = 0
def kR (I : qI) (p M : Nat) : Prop := I 12 7 = iI p ∧ I 12 8 = nI M ∧ pr p ∧ 2 ≤ M ∧ M ≤ 24
def zx (p n : Nat) (f : Nat → Int) (i : Nat) : Int := if i < n then f i % p else 0
def dj (x y : Nat) : Prop := x ≠ y ∧ x ≠ y + 1 ∧ y ≠ x + 1
theorem dj.symm {x y : Nat} (h : dj x y) : dj y x := ⟨h.1.symm, h.2.2, h.2.1⟩
theorem zx_ok {p n : Nat} {f : Nat → Int} (hp : 0 < p) (hn : n ≤ 24) : okS p n (zx p n f) := by
  refine ⟨hn, fun i => ?_, fun i hi => if_neg (by omega)⟩
  unfold zx
  split
  · exact ⟨Int.emod_nonneg _ (by omega), Int.emod_lt_of_pos _ (by omega)⟩
  · omega
theorem zx_lt {p n i : Nat} {f : Nat → Int} (h : i < n) : zx p n f i = f i % p := if_pos h
theorem zx_ge {p n i : Nat} {f : Nat → Int} (h : n ≤ i) : zx p n f i = 0 := if_neg (by omega)
theorem okS.red {p n : Nat} {c : Nat → Int} (h : okS p n c) (i : Nat) : c i % p = c i := Int.emod_eq_of_lt (h.2.1 i).1 (h.2.1 i).2
theorem okS.zx {p n : Nat} {c : Nat → Int} (h : okS p n c) : zx p n c = c := by
  funext i
  by_cases hi : i < n
  · rw [zx_lt hi, h.red]
  · rw [zx_ge (by omega), h.2.2 i (by omega)]
theorem kS.frame {I I' : qI} {a n : Nat} {c : Nat → Int} (h : kS I a n c) (h1 : I' a = I a) (h2 : I' (a + 1) = I (a + 1)) : kS I' a n c := ⟨by rw [h1]; exact h.1, fun i hi => by rw [h2]; exact h.2 i hi⟩
theorem kR.frame {I I' : qI} {p M : Nat} (h : kR I p M) (h1 : I' 12 = I 12) : kR I' p M := ⟨by rw [h1]; exact h.1, by rw [h1]; exact h.2.1, h.2.2⟩
theorem kR.p2 {I : qI} {p M : Nat} (h : kR I p M) : 2 ≤ p ∧ p < 998 := ⟨h.2.2.1.two, h.2.2.1.2⟩
theorem kR.nz {I : qI} {p M : Nat} (h : kR I p M) : ¬ I 12 7 = 0 := by
  have := h.p2
  rw [h.1, iI_z0, iI_eq (by omega) (by omega)]
  omega
theorem kR.rem {I : qI} {p M : Nat} (h : kR I p M) {a : Int} (ha : 0 ≤ a ∧ a < 2147483648) : qrem (iI a) (I 12 7) = iI (a % p) := by
  have := h.p2
  rw [h.1, iI_rem ha (by omega)]
/-! rows written place by place -/
def am (I : qI) (a i : Nat) (v : Nat → Int32) (I' : qI) : Prop := (∀ b, b ≠ a → I' b = I b) ∧ (∀ j, j < i → I' a j = v j) ∧ ∀ j, i ≤ j → I' a j = I a j
theorem am_0 (I : qI) (a : Nat) (v : Nat → Int32) : am I a 0 v I := ⟨fun _ _ => rfl, fun j h => absurd h (Nat.not_lt_zero j), fun _ _ => rfl⟩
theorem am_s {I I' : qI} {a i : Nat} {v : Nat → Int32} {w : Int32} (h : am I a i v I') (hw : w = v i) : am I a (i + 1) v (qw I' a i w) := by
  refine ⟨fun b hb => by rw [zu_a hb]; exact h.1 b hb, fun j hj => ?_, fun j hj => by rw [zu_k (by omega)]; exact h.2.2 j (by omega)⟩
  by_cases hji : j = i
  · rw [hji, zu_s, hw]
  · rw [zu_k hji]; exact h.2.1 j (by omega)
/-- from the last one down -/
def dm (I : qI) (a i n : Nat) (v : Nat → Int32) (I' : qI) : Prop := (∀ b, b ≠ a → I' b = I b) ∧ (∀ j, i ≤ j → j < n → I' a j = v j) ∧ ∀ j, (j < i ∨ n ≤ j) → I' a j = I a j
theorem dm_0 (I : qI) (a n : Nat) (v : Nat → Int32) : dm I a n n v I := ⟨fun _ _ => rfl, fun j h h2 => by omega, fun _ _ => rfl⟩
theorem dm_s {I I' : qI} {a i n : Nat} {v : Nat → Int32} {w : Int32} (h : dm I a (i + 1) n v I') (hi : i < n) (hw : w = v i) : dm I a i n v (qw I' a i w) := by
  refine ⟨fun b hb => by rw [zu_a hb]; exact h.1 b hb, fun j hj hn => ?_, fun j hj => by rw [zu_k (by omega)]; exact h.2.2 j (by omega)⟩
  by_cases hji : j = i
  · rw [hji, zu_s, hw]
  · rw [zu_k hji]; exact h.2.1 j (by omega) hn
/-! ORDER -/
def odf (c : Nat → Int) : Nat → Nat → Nat
  | 0, i => i
  | r + 1, i => if c i = 0 then odf c r (i + 1) else i
def od (n : Nat) (c : Nat → Int) : Nat := odf c n 0
theorem odf_spec (c : Nat → Int) : ∀ r i : Nat, i ≤ odf c r i ∧ odf c r i ≤ i + r ∧ (∀ j, i ≤ j → j < odf c r i → c j = 0) ∧ (odf c r i < i + r → c (odf c r i) ≠ 0)
  | 0, i => ⟨Nat.le_refl _, Nat.le_refl _, fun j h1 h2 => absurd (show j < i from h2) (by omega), fun h => absurd (show i < i + 0 from h) (by omega)⟩
  | r + 1, i => by
    unfold odf
    by_cases h : c i = 0
    · rw [if_pos h]
      obtain ⟨h1, h2, h3, h4⟩ := odf_spec c r (i + 1)
      refine ⟨by omega, by omega, fun j a b => ?_, fun a => h4 (by omega)⟩
      by_cases hj : j = i
      · rw [hj]; exact h
      · exact h3 j (by omega) b
    · rw [if_neg h]
      exact ⟨Nat.le_refl _, by omega, fun j a b => absurd b (by omega), fun _ => h⟩
theorem od_le (n : Nat) (c : Nat → Int) : od n c ≤ n := by have := (odf_spec c n 0).2.1; unfold od; omega
theorem od_z {n i : Nat} {c : Nat → Int} (h : i < od n c) : c i = 0 := (odf_spec c n 0).2.2.1 i (Nat.zero_le _) h
theorem od_nz {n : Nat} {c : Nat → Int} (h : od n c < n) : c (od n c) ≠ 0 := (odf_spec c n 0).2.2.2 (by unfold od at h; omega)
theorem od_0 {n : Nat} {c : Nat → Int} (h : c 0 ≠ 0) : od n c = 0 := Classical.byContradiction (fun h2 => h (od_z (n := n) (by omega)))
theorem od_ge {n : Nat} {c : Nat → Int} {k : Nat} (hk : k ≤ n) (h : ∀ i, i < k → c i = 0) : k ≤ od n c := by
  refine Classical.byContradiction (fun h2 => ?_)
  exact od_nz (n := n) (c := c) (by omega) (h _ (by omega))
section KSER
variable {d : Nat} {g : qG} {I : qI} {J : qJ} {Q : qQ} {p M n m x x1 x2 : Nat} {c e : Nat → Int}
theorem k_first_l (hx : qSer g x) (h1 : kS I x n c) (ho : okS p n c) (hp : p < 998) : ∀ r i, i + r = n → Q (some (.int (nI (odf c r i)))) g I J → qev d 73 (2, [.ref x, .int (nI i)], [], g, I, J) Q
  | 0, i, hi, h => by
    refine w73_2 hx ⟨fun _ => ?_, fun h2 => ?_⟩
    · rw [h1.1, ← hi]; exact h
    · rw [h1.1, nI_leI (by have := ho.1; omega) (by have := ho.1; omega)] at h2; omega
  | r + 1, i, hi, h => by
    have h24 := ho.1
    refine w73_2 hx ⟨fun h2 => ?_, fun h2 => ⟨i, rfl, by omega, fun h3 => ?_, fun h3 => ?_⟩⟩
    · rw [h1.1, nI_leI (by omega) (by omega)] at h2; omega
    · rw [h1.2 i (by omega), iI_z0, iI_eq (by have := ho.2.1 i; omega) (by omega)] at h3
      rw [odf, if_pos h3] at h
      rw [nI_add]
      exact k_first_l hx h1 ho hp r (i + 1) (by omega) h
    · rw [h1.2 i (by omega), iI_z0, iI_eq (by have := ho.2.1 i; omega) (by omega)] at h3
      rw [odf, if_neg h3] at h
      exact h
theorem k_first (hx : qSer g x) (h1 : kS I x n c) (ho : okS p n c) (hp : p < 998) (h : Q (some (.int (nI (od n c)))) g I J) : qC d 73 [.ref x] g I J Q :=
  w73 hx (k_first_l hx h1 ho hp n 0 (by omega) h)
theorem k_copy (hx1 : qSer g x1) (hx2 : qSer g x2) (hd : x2 ≠ x1 + 1) (h1 : kS I x2 n c) (hn : n ≤ 24) (k : ∀ I', kS I' x1 n c → (∀ b, b ≠ x1 → b ≠ x1 + 1 → I' b = I b) → Q none g I' J) : qC d 74 [.ref x1, .ref x2] g I J Q := by
  refine w74 hx1 hx2 ⟨0, 0, 24, rfl, rfl, rfl, by omega, by omega, ?_⟩
  refine k _ ⟨?_, fun i hi => ?_⟩ (fun b h1 h2 => by rw [zu_a h1, zv_a h2])
  · rw [zu_s, zv_a hd]; exact h1.1
  · rw [zu_a (by omega), zv_s, pk_cpy_in (by omega) (by omega)]
    rw [show 0 + (i - 0) = i by omega]
    exact h1.2 i hi
theorem k_short (hx : qSer g x) (h1 : kS I x n c) (hn : n ≤ 24) {v : Int32} (hv : v = nI m) (hm : m < 1000) (k : ∀ I', kS I' x (min n m) (fun i => if i < min n m then c i else 0) → (∀ b, b ≠ x → I' b = I b) → Q none g I' J) : qC d 75 [.ref x, .int v] g I J Q := by
  subst hv
  refine w75 hx (k _ ⟨?_, fun i hi => ?_⟩ (fun b hb => zu_a hb))
  · rw [zu_s, h1.1, qmin_nI (by omega) (by omega)]
  · rw [zu_a (by omega), h1.2 i (by omega)]; dsimp only; rw [if_pos hi]
theorem k_widen_l (hx : qSer g x) (hm : m ≤ 24) {v : Int32} : ∀ r i I', i + r = m → n ≤ i → I' x 1 = nI n → (∀ b, b ≠ x + 1 → I' b = I b) → (∀ j, j < n → I' (x + 1) j = I (x + 1) j) → (∀ j, n ≤ j → j < i → I' (x + 1) j = iI 0) →
    (∀ I', I' x 1 = nI m → (∀ j, j < n → I' (x + 1) j = I (x + 1) j) → (∀ j, n ≤ j → j < m → I' (x + 1) j = iI 0) → (∀ b, b ≠ x → b ≠ x + 1 → I' b = I b) → Q none g I' J) → qev d 76 (12, [.ref x, .int v, .int (nI m), .int (nI i)], [], g, I', J) Q
  | 0, i, I', hi, hn, h0, hb, h1, h2, k => by
    refine w76_12 hx ⟨fun _ => ?_, fun h3 => ?_⟩
    · refine k _ zu_s (fun j hj => by rw [zu_a (by omega)]; exact h1 j hj) (fun j a b => by rw [zu_a (by omega)]; exact h2 j a (by omega)) (fun b a1 a2 => by rw [zu_a a1]; exact hb b a2)
    · rw [nI_leI (by omega) (by omega)] at h3; omega
  | r + 1, i, I', hi, hn, h0, hb, h1, h2, k => by
    refine w76_12 hx ⟨fun h3 => ?_, fun _ => ⟨i, rfl, by omega, ?_⟩⟩
    · rw [nI_leI (by omega) (by omega)] at h3; omega
    · rw [nI_add]
      refine k_widen_l hx hm r (i + 1) _ (by omega) (by omega) (by rw [zu_a (by omega)]; exact h0) (fun b a => by rw [zu_a a]; exact hb b a) (fun j hj => by rw [zu_k (by omega)]; exact h1 j hj) (fun j a b => ?_) k
      by_cases hj : j = i
      · rw [hj, zu_s]; exact nI_iI 0
      · rw [zu_k hj]; exact h2 j a (by omega)
theorem k_widen (hx : qSer g x) (h1 : kS I x n c) (ho : okS p n c) (hnm : n ≤ m) (hm : m ≤ 24) (k : ∀ I', kS I' x m c → (∀ b, b ≠ x → b ≠ x + 1 → I' b = I b) → Q none g I' J) : qC d 76 [.ref x, .int (nI m)] g I J Q := by
  refine w76 hx ?_
  rw [qmin_nI (by omega) (by omega), show min m 24 = m by omega, h1.1]
  refine k_widen_l (n := n) hx hm (m - n) n I (by omega) (Nat.le_refl _) h1.1 (fun _ _ => rfl) (fun _ _ => rfl) (fun j a b => by omega) (fun I' a1 a2 a3 a4 => k I' ⟨a1, fun i hi => ?_⟩ a4)
  by_cases hin : i < n
  · rw [a2 i hin]; exact h1.2 i hin
  · rw [a3 i (by omega) hi, ho.2.2 i (by omega)]
/-- without its first v places -/
def shf (v : Nat) (c : Nat → Int) : Nat → Int := fun i => c (i + v)
theorem k_without (hx : qSer g x) (h1 : kS I x n c) (hn : n ≤ 24) (hm : m ≤ n) (k : ∀ I', kS I' x (n - m) (shf m c) → (∀ b, b ≠ x → b ≠ x + 1 → I' b = I b) → Q none g I' J) : qC d 77 [.ref x, .int (nI m)] g I J Q := by
  refine w77 hx ⟨fun h2 => ?_, fun h2 => ⟨fun h3 => ?_, fun h3 => ⟨m, 0, n - m, rfl, rfl, ?_, by omega, by omega, ?_⟩⟩⟩
  · rw [← nI_0, nI_leI (by omega) (by omega)] at h2
    have e : m = 0 := by omega
    subst e
    exact k I ⟨h1.1, h1.2⟩ (fun _ _ _ => rfl)
  · rw [h1.1, nI_ltI (by omega) (by omega)] at h3; omega
  · rw [h1.1, pk_sub hm]
  · refine k _ ⟨?_, fun i hi => ?_⟩ (fun b a1 a2 => by rw [zu_a a1, zv_a a2])
    · rw [zu_s, zv_a (by omega), h1.1, pk_sub hm]
    · rw [zu_a (by omega), zv_s, pk_cpy_in (by omega) (by omega), show m + (i - 0) = i + m by omega]
      exact h1.2 (i + m) (by omega)
/-- a row filled -/
theorem k_fill_l {a w : Nat} {v : Int32} (hk : g.1 a = some (100, w)) (hw : w < 2 ^ 31) : ∀ r i I', i + r = w → am I a i (fun _ => v) I' → (∀ I', am I a w (fun _ => v) I' → Q none g I' J) → qev d 268 (5, [.ref a, .int v, .int (nI i), .int (nI w)], [], g, I', J) Q
  | 0, i, I', hi, hA, k => by
    refine w268_5 hk hw ⟨fun _ => k I' ?_, fun h3 => ?_⟩
    · rw [← hi]; exact hA
    · rw [nI_leI (by omega) (by omega)] at h3; omega
  | r + 1, i, I', hi, hA, k => by
    refine w268_5 hk hw ⟨fun h3 => ?_, fun _ => ⟨i, rfl, by omega, ?_⟩⟩
    · rw [nI_leI (by omega) (by omega)] at h3; omega
    · rw [nI_add]; exact k_fill_l hk hw r (i + 1) _ (by omega) (am_s hA rfl) k
theorem k_fill {a w : Nat} {v : Int32} (hk : g.1 a = some (100, w)) (hw : w < 2 ^ 31) (k : ∀ I', am I a w (fun _ => v) I' → Q none g I' J) : qC d 268 [.ref a, .int v] g I J Q :=
  w268 hk hw (k_fill_l hk hw w 0 I (by omega) (am_0 I a _) k)
def sNum (p : Nat) (v : Int) : Nat → Int := fun i => if i = 0 then v % p else 0
theorem sNum_ok {p M : Nat} (hp : 0 < p) (h : 1 ≤ M ∧ M ≤ 24) (v : Int) : okS p M (sNum p v) := by
  refine ⟨h.2, fun i => ?_, fun i hi => if_neg (by omega)⟩
  unfold sNum
  split
  · exact ⟨Int.emod_nonneg _ (by omega), Int.emod_lt_of_pos _ (by omega)⟩
  · omega
theorem k_setNum (hs : qSh g) (hr : kR I p M) (hx : qSer g x) (h13 : 13 < x) {v : Int} (hv : 0 ≤ v ∧ v < 2147483648) {w : Int32} (hw : w = iI v) (k : ∀ I', kS I' x M (sNum p v) → (∀ b, b ≠ x → b ≠ x + 1 → I' b = I b) → Q none g I' J) : qC (d + 1) 5 [.ref 12, .ref x, .int w] g I J Q := by
  subst hw
  refine w5 hs hx (k_fill hx.k0 (by omega) (fun I1 h1 => ⟨rfl, ?_⟩))
  have hr1 : kR I1 p M := hr.frame (h1.1 12 (by omega))
  refine ⟨hr1.nz, ?_⟩
  rw [hr1.rem hv]
  refine k _ ⟨?_, fun i hi => ?_⟩ (fun b a1 a2 => by rw [zu_a a1, zu_a a2]; exact h1.1 b a2)
  · rw [zu_s, zu_a (by omega)]; exact hr1.2.1
  · rw [zu_a (by omega)]
    unfold sNum
    by_cases h0 : i = 0
    · rw [h0, zu_s, if_pos rfl]
    · rw [zu_k h0, if_neg h0, h1.2.1 i (by have := hr.2.2.2.2; omega)]; exact nI_iI 0
def sX : Nat → Int := fun i => if i = 1 then 1 else 0
theorem k_setX (hs : qSh g) (hr : kR I p M) (hx : qSer g x) (h13 : 13 < x) (k : ∀ I', kS I' x M sX → (∀ b, b ≠ x → b ≠ x + 1 → I' b = I b) → Q none g I' J) : qC (d + 2) 6 [.ref 12, .ref x] g I J Q := by
  refine w6 hs hx (k_setNum hs hr hx h13 (v := 0) (by omega) (nI_iI 0) (fun I1 h1 h2 => ⟨rfl, k _ ⟨?_, fun i hi => ?_⟩ (fun b a1 a2 => by rw [zu_a a2]; exact h2 b a1 a2)⟩))
  · rw [zu_a (by omega)]; exact h1.1
  · unfold sX
    by_cases h0 : i = 1
    · rw [h0, zu_s, if_pos rfl]; exact nI_iI 1
    · rw [zu_k h0, if_neg h0, h1.2 i hi]
      unfold sNum
      split
      · rw [Int.zero_emod]
      · rfl
/-! sums, products place by place -/
theorem k_addT_l (hs : qSh g) (hx1 : qSer g x1) (hx2 : qSer g x2) (hr : kR I p M) (h13 : 13 < x1) (hd : dj x1 x2) {fac : Int} (hf : 0 ≤ fac ∧ fac ≤ p) (h0 : I x1 1 = nI n) (hn : n ≤ 24) (hc : ∀ i, i < n → I (x1 + 1) i = iI (c i)) (he : ∀ i, i < n → I (x2 + 1) i = iI (e i)) (oc : ∀ i, 0 ≤ c i ∧ c i < p) (oe : ∀ i, 0 ≤ e i ∧ e i < p)
    (k : ∀ I', am I (x1 + 1) n (fun i => iI ((c i + fac * e i) % p)) I' → Q none g I' J) : ∀ r i I', i + r = n → am I (x1 + 1) i (fun i => iI ((c i + fac * e i) % p)) I' → qev d 7 (18, [.ref 12, .ref x1, .ref x2, .int (iI fac), .int (nI i)], [], g, I', J) Q
  | 0, i, I', hi, hA => by
    have e0 : I' x1 1 = nI n := by rw [hA.1 x1 (by omega)]; exact h0
    refine w7_18 hs hx1 hx2 ⟨fun _ => k I' ?_, fun h3 => ?_⟩
    · rw [← hi]; exact hA
    · rw [e0, nI_leI (by omega) (by omega)] at h3; omega
  | r + 1, i, I', hi, hA => by
    have e0 : I' x1 1 = nI n := by rw [hA.1 x1 (by omega)]; exact h0
    have hr1 : kR I' p M := hr.frame (hA.1 12 (by omega))
    refine w7_18 hs hx1 hx2 ⟨fun h3 => ?_, fun _ => ⟨i, rfl, by omega, i, rfl, by omega, hr1.nz, i, rfl, by omega, ?_⟩⟩
    · rw [e0, nI_leI (by omega) (by omega)] at h3; omega
    · have a1 : I' (x1 + 1) i = iI (c i) := by rw [hA.2.2 i (Nat.le_refl _)]; exact hc i (by omega)
      have a2 : I' (x2 + 1) i = iI (e i) := by rw [hA.1 (x2 + 1) (by have := hd.1; omega)]; exact he i (by omega)
      have b1 := oc i
      have b2 := oe i
      have b3 := hr.p2
      have b4 : 0 ≤ fac * e i ∧ fac * e i ≤ 997 * 997 := ⟨Int.mul_nonneg hf.1 b2.1, Int.mul_le_mul (by omega) (by omega) b2.1 (by omega)⟩
      rw [nI_add, a1, a2, iI_mul, iI_add, hr1.rem (by omega)]
      exact k_addT_l hs hx1 hx2 hr h13 hd hf h0 hn hc he oc oe k r (i + 1) _ (by omega) (am_s hA rfl)
theorem k_addT (hs : qSh g) (hx1 : qSer g x1) (hx2 : qSer g x2) (hr : kR I p M) (h13 : 13 < x1) (hd : dj x1 x2) {fac : Int} (hf : 0 ≤ fac ∧ fac ≤ p) {w : Int32} (hw : w = iI fac) (h1 : kS I x1 n c) (h2 : kS I x2 m e) (o1 : okS p n c) (o2 : okS p m e)
    (k : ∀ I', kS I' x1 (min n m) (zx p (min n m) (fun i => c i + fac * e i)) → (∀ b, b ≠ x1 → b ≠ x1 + 1 → I' b = I b) → Q none g I' J) : qC d 7 [.ref 12, .ref x1, .ref x2, .int w] g I J Q := by
  subst hw
  have hn := o1.1
  have hm := o2.1
  refine w7 hx1 hx2 ?_
  rw [h1.1, h2.1, qmin_nI (by omega) (by omega)]
  have hr1 : kR (qw I x1 1 (nI (min n m))) p M := hr.frame (zu_a (by omega))
  refine k_addT_l (n := min n m) (c := c) (e := e) hs hx1 hx2 hr1 h13 hd hf zu_s (by omega) (fun i hi => by rw [zu_a (by omega)]; exact h1.2 i (by omega)) (fun i hi => by rw [zu_a (by have := hd; unfold dj at this; omega)]; exact h2.2 i (by omega)) o1.2.1 o2.2.1 (fun I' hA => k I' ⟨?_, fun i hi => ?_⟩ (fun b a1 a2 => by rw [hA.1 b a2, zu_a a1])) (min n m) 0 _ (by omega) (am_0 _ _ _)
  · rw [hA.1 x1 (by omega), zu_s]
  · rw [hA.2.1 i hi, zx_lt hi]
end KSER
