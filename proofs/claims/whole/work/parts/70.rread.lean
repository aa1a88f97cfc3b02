/-! the reference reads: signs, numbers, codes. A fault once told stays -/
def rlk (t : List Nat) (i : Nat) : Int32 := if tb t i = 0 then -1 else nI (tb t i)
def rTp (t : List Nat) (I : qI) : Prop := I 105 2 = nI t.length ∧ t.length ≤ 320 ∧ (∀ j, j < t.length → I 106 j &&& nI 255 = nI (tb t j) ∧ 1 ≤ tb t j) ∧ ∀ j, tb t j < 256
theorem m1_ne {n : Nat} (h : n < 2 ^ 31) : ¬ (nI n = -1) := fun e => by
  have h0 : ¬ nI n < 0 := nI_pos h
  rw [e] at h0
  exact h0 (by decide +kernel)
theorem rlk_m1 {t : List Nat} {i : Nat} (hb : tb t i < 256) : rlk t i = -1 ↔ tb t i = 0 := by
  unfold rlk
  by_cases h : tb t i = 0
  · rw [if_pos h]; exact ⟨fun _ => h, fun _ => rfl⟩
  · rw [if_neg h]; exact ⟨fun e => absurd e (m1_ne (by omega)), fun e => absurd e h⟩
theorem rlk_eq {t : List Nat} {i c : Nat} (hb : tb t i < 256) (hc : 1 ≤ c ∧ c < 256) : rlk t i = nI c ↔ tb t i = c := by
  unfold rlk
  by_cases h : tb t i = 0
  · rw [if_pos h]; exact ⟨fun e => absurd e.symm (m1_ne (by omega)), fun e => by omega⟩
  · rw [if_neg h, nI_eq (by omega) (by omega)]
theorem rlk_lt {t : List Nat} {i c : Nat} (hb : tb t i < 256) (hc : 1 ≤ c ∧ c < 256) : rlk t i < nI c ↔ tb t i < c := by
  unfold rlk
  by_cases h : tb t i = 0
  · rw [if_pos h, h]
    refine ⟨fun _ => by omega, fun _ => ?_⟩
    rw [iI_zm1, nI_iI, iI_lt (by omega) (by omega)]; omega
  · rw [if_neg h, nI_ltI (by omega) (by omega)]
theorem rlk_gt {t : List Nat} {i c : Nat} (hb : tb t i < 256) (hc : 1 ≤ c ∧ c < 256) : nI c < rlk t i ↔ c < tb t i := by
  unfold rlk
  by_cases h : tb t i = 0
  · rw [if_pos h, h]
    refine ⟨fun e => ?_, fun e => by omega⟩
    rw [iI_zm1, nI_iI, iI_lt (by omega) (by omega)] at e; omega
  · rw [if_neg h, nI_ltI (by omega) (by omega)]
/-- the place moved, nothing else -/
def rNF (I I' : qI) : Prop := (∀ b, b ≠ 105 → I' b = I b) ∧ ∀ f, f ≠ 3 → I' 105 f = I 105 f
theorem rNF.refl (I : qI) : rNF I I := ⟨fun _ _ => rfl, fun _ _ => rfl⟩
theorem rNF.trans {I I1 I2 : qI} (h : rNF I I1) (h2 : rNF I1 I2) : rNF I I2 := ⟨fun b hb => by rw [h2.1 b hb, h.1 b hb], fun f hf => by rw [h2.2 f hf, h.2 f hf]⟩
theorem rNF.w3 {I : qI} {v : Int32} : rNF I (qw I 105 3 v) := ⟨fun b hb => zu_a hb, fun f hf => zu_k hf⟩
theorem rTp.keep {t : List Nat} {I I' : qI} (h : rTp t I) (h1 : I' 105 2 = I 105 2) (h2 : I' 106 = I 106) : rTp t I' := ⟨by rw [h1]; exact h.1, h.2.1, fun j hj => by rw [h2]; exact h.2.2.1 j hj, h.2.2.2⟩
theorem rTp.nf {t : List Nat} {I I' : qI} (h : rTp t I) (f : rNF I I') : rTp t I' := h.keep (f.2 2 (by omega)) (f.1 106 (by omega))
section RREAD
variable {d : Nat} {g : qG} {I : qI} {J : qJ} {Q : qQ} {i a : Nat} {t : List Nat}
theorem r_here (hsh : qSh g) (hT : rTp t I) (hp : I 105 3 = nI i) (hi : i ≤ t.length) (k : Q (some (.int (rlk t i))) g I J) : qC d 153 [.ref 105] g I J Q := by
  have hL := hT.2.1
  refine w153 hsh ?_
  rw [hT.1, hp, nI_leI (by omega) (by omega)]
  by_cases h : t.length ≤ i
  · refine brT h ?_
    unfold rlk at k
    rw [if_pos (tb_ge h)] at k
    exact k
  · refine brN h ⟨i, rfl, by omega, ?_⟩
    obtain ⟨h1, h2⟩ := hT.2.2.1 i (by omega)
    rw [h1]
    unfold rlk at k
    rw [if_neg (by omega)] at k
    exact k
theorem r_look_l (hsh : qSh g) : ∀ (f i : Nat) (I : qI), i + f = t.length → rTp t I → I 105 3 = nI i → (∀ I', rNF I I' → I' 105 3 = nI (skf t f i) → Q (some (.int (rlk t (skf t f i)))) g I' J) → qC (d + 1) 154 [.ref 105] g I J Q
  | 0, i, I, hf, hT, hp, k => by
    have hb := hT.2.2.2 i
    refine w154 hsh (r_here hsh hT hp (by omega) ⟨_, rfl, brN ?_ (r_here hsh hT hp (by omega) ⟨_, rfl, k I (rNF.refl I) hp⟩)⟩)
    rw [rlk_eq hb (by omega), tb_ge (by omega)]; omega
  | f + 1, i, I, hf, hT, hp, k => by
    have hb := hT.2.2.2 i
    unfold skf at k
    refine w154 hsh (r_here hsh hT hp (by omega) ⟨_, rfl, ?_⟩)
    rw [rlk_eq hb (by omega)]
    by_cases h32 : tb t i = 32
    · rw [if_pos h32] at k
      refine brT h32 ?_
      exact r_look_l hsh f (i + 1) _ (by omega) (hT.nf rNF.w3) (by rw [zu_s, hp, nI_add]) (fun I' h1 h2 => k I' (rNF.w3.trans h1) h2)
    · rw [if_neg h32] at k
      exact brN h32 (r_here hsh hT hp (by omega) ⟨_, rfl, k I (rNF.refl I) hp⟩)
theorem r_look (hsh : qSh g) (hT : rTp t I) (hp : I 105 3 = nI i) (hi : i ≤ t.length) (k : ∀ I', rNF I I' → I' 105 3 = nI (sk t i) → Q (some (.int (rlk t (sk t i)))) g I' J) : qC (d + 1) 154 [.ref 105] g I J Q := r_look_l hsh (t.length - i) i I (by omega) hT hp k
theorem r_fails (hsh : qSh g) (h4 : I 105 4 = -1) (k : Q none g (qw I 105 4 (I 105 3)) J) : qC d 155 [.ref 105] g I J Q := w155 hsh (brT h4 k)
theorem r_dig (hsh : qSh g) (hT : rTp t I) (hp : I 105 3 = nI i) (hi : i ≤ t.length) (k1 : 48 ≤ tb t i ∧ tb t i ≤ 57 → Q (some (.int (nI 1))) g I J) (k0 : ¬ (48 ≤ tb t i ∧ tb t i ≤ 57) → Q (some (.int (nI 0))) g I J) : qC (d + 1) 156 [.ref 105] g I J Q := by
  have hb := hT.2.2.2 i
  refine w156 hsh (r_here hsh hT hp hi ⟨_, rfl, ?_⟩)
  rw [rlk_lt hb (by omega)]
  refine ⟨fun h => k0 (by omega), fun h => r_here hsh hT hp hi ⟨_, rfl, ?_⟩⟩
  rw [rlk_gt hb (by omega)]
  exact ⟨fun h => k0 (by omega), fun h => k1 (by omega)⟩
theorem r_prm_l {v : Nat} (hv : v < 1000) : ∀ f c : Nat, c + f = 33 → 2 ≤ c → (∀ t, 2 ≤ t → t < c → v % t ≠ 0) → (prB v = true → Q (some (.int (nI 1))) g I J) → (prB v = false → Q (some (.int (nI 0))) g I J) → qev d 158 (2, [.int (nI v), .int (nI c)], [], g, I, J) Q := by
  have fin : ∀ c : Nat, 2 ≤ c → v < c * c → (∀ t, 2 ≤ t → t < c → v % t ≠ 0) → (prB v = true → Q (some (.int (nI 1))) g I J) → (prB v = false → Q (some (.int (nI 0))) g I J) → ((nI v ≤ nI 1 → Q (some (.int (nI 0))) g I J) ∧ (¬ nI v ≤ nI 1 → Q (some (.int (nI 1))) g I J)) := fun c hc hv2 hn k1 k0 => by
    rw [nI_leI (by omega) (by omega)]
    refine ⟨fun h => k0 (Bool.eq_false_iff.mpr (fun hp => by have := ((prB_iff hv).mp hp).1; omega)), fun h => k1 ((prB_iff hv).mpr ⟨by omega, fun t a b => hn t a (Nat.lt_of_not_le (fun h => by have := Nat.mul_le_mul h h; omega))⟩)⟩
  intro f
  induction f with
  | zero =>
    intro c hc h2 hn k1 k0
    have hc : c = 33 := by omega
    subst hc
    refine w158_2 ?_
    rw [pk_mul, nI_ltI (by omega) (by omega)]
    exact brT (by omega) (fin 33 (by omega) (by omega) hn k1 k0)
  | succ f ih =>
    intro c hc h2 hn k1 k0
    have hcc : c * c ≤ 32 * 32 := Nat.mul_le_mul (by omega) (by omega)
    refine w158_2 ?_
    rw [pk_mul, nI_ltI (by omega) (by omega)]
    by_cases h3 : v < c * c
    · exact brT h3 (fin c h2 h3 hn k1 k0)
    · refine brN h3 ⟨?_, ?_⟩
      · rw [← nI_0, nI_eq (by omega) (by omega)]; omega
      · rw [qrem, pk_rem (by omega) (by omega) (by omega), ← nI_0, nI_eq (by have := Nat.mod_lt v (show 0 < c by omega); omega) (by omega)]
        by_cases h4 : v % c = 0
        · exact brT h4 (k0 (Bool.eq_false_iff.mpr (fun hp => ((prB_iff hv).mp hp).2 c h2 (by omega) h4)))
        · refine brN h4 ?_
          rw [nI_add]
          refine ih (c + 1) (by omega) (by omega) (fun t a b => ?_) k1 k0
          by_cases ht : t = c
          · rw [ht]; exact h4
          · exact hn t a (by omega)
theorem r_nmb_l (hsh : qSh g) {lo hi pb w4 : Int32} : ∀ (f c j v : Nat) (I : qI), c + f = 3 → rTp t I → I 105 3 = nI j → j ≤ t.length →
    (∀ I', rNF I I' → I' 105 3 = nI (nuL t f j v).1 → qev (d + 2) 159 (69, [.ref 105, .int lo, .int hi, .int pb, .int w4, .int (nI (nuL t f j v).2), .int (nI (c + ((nuL t f j v).1 - j)))], [], g, I', J) Q) →
    qev (d + 2) 159 (25, [.ref 105, .int lo, .int hi, .int pb, .int w4, .int (nI v), .int (nI c)], [], g, I, J) Q
  | 0, c, j, v, I, hc, hT, hp, hj, k => by
    refine w159_25 hsh (brT (by rw [nI_leI (by omega) (by omega)]; omega) ?_)
    have h := k I (rNF.refl I) hp
    unfold nuL at h
    rw [show c + ((j, v).1 - j) = c by dsimp only; omega] at h
    exact h
  | f + 1, c, j, v, I, hc, hT, hp, hj, k => by
    have hL := hT.2.1
    have hb := hT.2.2.2 j
    refine w159_25 hsh (brN (by rw [nI_leI (by omega) (by omega)]; omega) ?_)
    unfold nuL at k
    refine r_dig hsh hT hp hj (fun h => ⟨_, rfl, br1 ?_⟩) (fun h => ⟨_, rfl, br0 ?_⟩)
    · rw [if_pos h] at k
      have hjl := tb_lt (t := t) (i := j) (by omega)
      refine r_here hsh hT hp hj ⟨_, rfl, ?_⟩
      have er : rlk t j = nI (tb t j) := by unfold rlk; rw [if_neg (by omega)]
      rw [er, pk_mul, nI_add, pk_sub (by omega), nI_add, show 10 * v + tb t j - 48 = 10 * v + (tb t j - 48) by omega]
      have hm := (nuL_spec t f (j + 1) (10 * v + (tb t j - 48))).1
      refine r_nmb_l hsh f (c + 1) (j + 1) (10 * v + (tb t j - 48)) _ (by omega) (hT.nf rNF.w3) (by rw [zu_s, hp, nI_add]) (by omega) (fun I' h1 h2 => ?_)
      have h := k I' (rNF.w3.trans h1) h2
      rw [show c + ((nuL t f (j + 1) (10 * v + (tb t j - 48))).1 - j) = c + 1 + ((nuL t f (j + 1) (10 * v + (tb t j - 48))).1 - (j + 1)) by omega] at h
      exact h
    · rw [if_neg h] at k
      have h := k I (rNF.refl I) hp
      rw [show c + ((j, v).1 - j) = c by dsimp only; omega] at h
      exact h
theorem nuL_0 {t : List Nat} {f j v : Nat} (h : ¬ (48 ≤ tb t j ∧ tb t j ≤ 57)) : nuL t f j v = (j, v) := by
  cases f with
  | zero => rfl
  | succ f => unfold nuL; rw [if_neg h]
theorem nuL_1 {t : List Nat} {f j v : Nat} (h : 48 ≤ tb t j ∧ tb t j ≤ 57) : j < (nuL t (f + 1) j v).1 := by
  unfold nuL
  rw [if_pos h]
  exact (nuL_spec t f (j + 1) _).1
def rFF (I I' : qI) : Prop := (∀ b, b ≠ 105 → I' b = I b) ∧ ∀ f, f ≠ 3 → f ≠ 4 → I' 105 f = I 105 f
theorem rNF.ff {I I' : qI} (h : rNF I I') : rFF I I' := ⟨h.1, fun f f1 _ => h.2 f f1⟩
theorem rFF.trans {I I1 I2 : qI} (h : rFF I I1) (h2 : rFF I1 I2) : rFF I I2 := ⟨fun b hb => by rw [h2.1 b hb, h.1 b hb], fun f f1 f2 => by rw [h2.2 f f1 f2, h.2 f f1 f2]⟩
theorem rFF.w4 {I : qI} {v : Int32} : rFF I (qw I 105 4 v) := ⟨fun b hb => zu_a hb, fun f _ hf => zu_k hf⟩
theorem r_nmb (hsh : qSh g) (hT : rTp t I) (hp : I 105 3 = nI i) (hil : i ≤ t.length) (h4 : I 105 4 = -1) {lo hi : Nat} {pb : Bool} (hh : lo < 1000 ∧ hi < 1000) (k : match nu t lo hi pb i with | .inl f => ∀ I', rFF I I' → I' 105 4 = nI f → Q (some (.int (nI lo))) g I' J | .inr q => ∀ I', rNF I I' → I' 105 3 = nI q.1 → Q (some (.int (nI q.2))) g I' J) : qC (d + 2) 159 [.ref 105, .int (nI lo), .int (nI hi), .int (nI (bI pb))] g I J Q := by
  have hL := sk_L hil
  have ht := hT.2.1
  refine w159 hsh (r_look hsh hT hp hil (fun I1 f1 p1 => ⟨_, rfl, ?_⟩))
  have e4 : I1 105 4 = -1 := by rw [f1.2 4 (by omega)]; exact h4
  unfold nu at k
  refine r_dig hsh (hT.nf f1) p1 hL (fun hd => ⟨_, rfl, br1 ?_⟩) (fun hd => ⟨_, rfl, br0 ?_⟩)
  · refine r_nmb_l hsh 3 0 (sk t i) 0 _ (by omega) (hT.nf f1) p1 hL (fun I2 f2 p2 => ?_)
    have f2 := f1.trans f2
    have e4 : I2 105 4 = -1 := by rw [f2.2 4 (by omega)]; exact h4
    obtain ⟨a1, a2, a3, a4⟩ := nuL_spec t 3 (sk t i) 0
    have a3 := a3 hL
    have a5 := nuL_1 (f := 2) (v := 0) hd
    have hT2 := hT.nf f2
    generalize nuL t 3 (sk t i) 0 = q at *
    obtain ⟨j, v⟩ := q
    dsimp only at k a1 a2 a3 a4 a5 p2 ⊢
    rw [if_neg (by omega)] at k
    -- what is answered where a fault has been told
    have bad : ∀ z, nI z = I2 105 3 → z ≤ t.length → (∀ I', rFF I I' → I' 105 4 = nI z → Q (some (.int (nI lo))) g I' J) → qC (d + 1) 155 [.ref 105] g I2 J (fun x _ I1 _ => x = none ∧ (((I1 105 4) = (-1) → Q (some (.int (nI v))) g I1 J) ∧ (¬ (I1 105 4) = (-1) → Q (some (.int (nI lo))) g I1 J))) := fun z hz hzl kk => by
      refine r_fails hsh e4 ⟨rfl, brN ?_ (kk _ (f2.ff.trans rFF.w4) (by rw [zu_s, hz]))⟩
      rw [zu_s, ← hz]; exact m1_ne (by omega)
    have bad2 : (∀ I', rFF I I' → I' 105 4 = nI (j - 1) → Q (some (.int (nI lo))) g I' J) → qC (d + 1) 155 [.ref 105] g (qw I2 105 3 (I2 105 3 - nI 1)) J (fun x _ I1 _ => x = none ∧ (((I1 105 4) = (-1) → Q (some (.int (nI v))) g I1 J) ∧ (¬ (I1 105 4) = (-1) → Q (some (.int (nI lo))) g I1 J))) := fun kk => by
      refine r_fails hsh (by rw [zu_k (by omega)]; exact e4) ⟨rfl, brN ?_ (kk _ ((f2.ff.trans rNF.w3.ff).trans rFF.w4) (by rw [zu_s, zu_s, p2, pk_sub (by omega)]))⟩
      rw [zu_s, zu_s, p2, pk_sub (by omega)]; exact m1_ne (by omega)
    refine w159_69 hsh (r_dig hsh hT2 p2 a3 (fun h => ⟨_, rfl, br1 ?_⟩) (fun h => ⟨_, rfl, br0 ?_⟩))
    · rw [if_pos h] at k
      exact bad j p2.symm a3 k
    · rw [if_neg h] at k
      refine r_isIn (a := (v : Int)) (b := (lo : Int)) (c := (hi : Int)) (by rw [nI_iI, iI_l (by omega)]) (by rw [nI_iI, iI_l (by omega)]) (by rw [nI_iI, iI_l (by omega)]) (by omega) (by omega) (by omega) (fun h5 => ⟨_, rfl, br1 ?_⟩) (fun h5 => ⟨_, rfl, br0 ?_⟩)
      · have bz : nI (bI pb) = 0 ↔ pb = false := by cases pb <;> decide +kernel
        rw [bz]
        cases pb with
        | false =>
          rw [if_neg (by rintro (h | h | h); omega; omega; exact absurd h.1 (by decide))] at k
          exact brT rfl (brT e4 (k I2 f2 p2))
        | true =>
          refine brN (by decide) (w158 (r_prm_l (v := v) (by omega) 31 2 (by omega) (by omega) (fun t a b => by omega) (fun hb => ⟨_, rfl, br1 ?_⟩) (fun hb => ⟨_, rfl, br0 ?_⟩)))
          · rw [if_neg (by rintro (h | h | h); omega; omega; rw [hb] at h; exact absurd h.2 (by decide))] at k
            exact brT e4 (k I2 f2 p2)
          · rw [if_pos (Or.inr (Or.inr ⟨rfl, hb⟩))] at k
            exact bad2 k
      · rw [if_pos (by omega)] at k
        exact bad2 k
  · rw [nuL_0 hd] at k
    rw [if_pos rfl] at k
    exact r_fails hsh e4 ⟨rfl, k _ (f1.ff.trans rFF.w4) (by rw [zu_s]; exact p1)⟩
theorem r_sgn (hsh : qSh g) (hT : rTp t I) (hp : I 105 3 = nI i) (hi : i ≤ t.length) (h4 : I 105 4 = -1) {c : Nat} (hc : 1 ≤ c ∧ c < 256) (k : match sg t c i with | .inl f => ∀ I', rFF I I' → I' 105 4 = nI f → Q none g I' J | .inr j => ∀ I', rNF I I' → I' 105 3 = nI j → Q none g I' J) : qC (d + 2) 160 [.ref 105, .int (nI c)] g I J Q := by
  have hb := hT.2.2.2 (sk t i)
  refine w160 hsh (brT h4 (r_look hsh hT hp hi (fun I1 f1 p1 => ⟨_, rfl, ?_⟩)))
  rw [rlk_eq hb hc]
  unfold sg at k
  by_cases h : tb t (sk t i) = c
  · rw [if_pos h] at k
    exact brT h (k _ (f1.trans rNF.w3) (by rw [zu_s, p1, nI_add]))
  · rw [if_neg h] at k
    refine brN h (r_fails hsh (by rw [f1.2 4 (by omega)]; exact h4) ⟨rfl, k _ (f1.ff.trans rFF.w4) (by rw [zu_s]; exact p1)⟩)
theorem r_sgnX (hsh : qSh g) {x : Int32} (h4 : ¬ I 105 4 = -1) (k : Q none g I J) : qC (d + 1) 160 [.ref 105, .int x] g I J Q := w160 hsh (brN h4 k)
/-- where a sign stands in a row of signs -/
theorem r_spot_l {z : Nat} (hz : 1 ≤ z ∧ z ≤ 3) {w : Int32} : ∀ f c : Nat, c + f = (qstr z).length → (∀ j, j < (qstr z).length → c ≤ j → nI ((qstr z).getD j 0) = w → (∀ q, c ≤ q → q < j → ¬ nI ((qstr z).getD q 0) = w) → Q (some (.int (nI j))) g I J) → ((∀ j, j < (qstr z).length → c ≤ j → ¬ nI ((qstr z).getD j 0) = w) → Q (some (.int (-1))) g I J) → qev d 157 (2, [.ref z, .int w, .int (nI c)], [], g, I, J) Q
  | 0, c, hc, k1, k0 => by
    have hl : (qstr z).length ≤ 9 := by
      have hd : z = 1 ∨ z = 2 ∨ z = 3 := by omega
      rcases hd with rfl | rfl | rfl <;> decide
    exact w157_2 ⟨_, hz.1, hz.2, rfl, brT (by rw [nI_leI (by omega) (by omega)]; omega) (k0 (fun j a b => by omega))⟩
  | f + 1, c, hc, k1, k0 => by
    have hl : (qstr z).length ≤ 9 := by
      have hd : z = 1 ∨ z = 2 ∨ z = 3 := by omega
      rcases hd with rfl | rfl | rfl <;> decide
    refine w157_2 ⟨_, hz.1, hz.2, rfl, brN (by rw [nI_leI (by omega) (by omega)]; omega) ⟨c, hz.1, hz.2, rfl, by omega, ?_⟩⟩
    by_cases h : nI ((qstr z).getD c 0) = w
    · exact brT h (k1 c (by omega) (Nat.le_refl _) h (fun q a b => by omega))
    · refine brN h ?_
      rw [nI_add]
      refine r_spot_l hz f (c + 1) (by omega) (fun j a b e n => k1 j a (by omega) e (fun q x y => ?_)) (fun n => k0 (fun j a b => ?_))
      · by_cases hq : q = c
        · rw [hq]; exact h
        · exact n q (by omega) y
      · by_cases hq : j = c
        · rw [hq]; exact h
        · exact n j a (by omega)
end RREAD
