/-! the beginning: the constructors -/
def asgL : List (Nat × Nat × Nat) := [(5, 0, 6), (4, 0, 5), (7, 1, 8), (7, 2, 9), (7, 0, 10), (4, 1, 7), (11, 0, 5), (11, 1, 7), (4, 2, 11), (12, 0, 13), (14, 0, 15), (12, 1, 14), (16, 0, 17), (12, 2, 16), (18, 0, 19), (12, 3, 18), (20, 0, 21), (12, 4, 20), (22, 0, 23), (12, 5, 22), (25, 0, 26), (24, 0, 25), (27, 0, 28), (24, 1, 27), (29, 0, 30), (24, 2, 29), (31, 0, 32), (24, 3, 31), (12, 6, 24), (4, 3, 12), (33, 1, 34), (33, 0, 12), (35, 0, 36), (34, 0, 35), (37, 0, 38), (34, 1, 37), (39, 0, 40), (34, 2, 39), (41, 0, 42), (34, 3, 41), (43, 0, 44), (34, 4, 43), (45, 0, 46), (34, 5, 45), (47, 0, 48), (34, 6, 47), (49, 0, 50), (34, 7, 49), (51, 0, 52), (34, 8, 51), (53, 0, 54), (34, 9, 53), (55, 0, 56), (34, 10, 55), (57, 0, 58), (34, 11, 57), (59, 0, 60), (34, 12, 59), (61, 0, 62), (34, 13, 61), (63, 0, 64), (34, 14, 63), (65, 0, 66), (34, 15, 65), (67, 0, 68), (34, 16, 67), (69, 0, 70), (34, 17, 69), (71, 0, 72), (34, 18, 71), (73, 0, 74), (34, 19, 73), (75, 0, 76), (34, 20, 75), (77, 0, 78), (34, 21, 77), (79, 0, 80), (34, 22, 79), (81, 0, 82), (34, 23, 81), (4, 4, 33), (83, 0, 84), (83, 1, 85), (83, 2, 86), (4, 5, 83), (87, 0, 88), (4, 6, 87), (89, 0, 90), (89, 1, 91), (89, 2, 92), (4, 7, 89), (93, 0, 94), (93, 1, 95), (93, 2, 96), (4, 8, 93), (97, 0, 98), (97, 1, 99), (97, 2, 100), (4, 9, 97), (101, 0, 102), (4, 10, 101), (4, 11, 103), (4, 12, 104), (105, 1, 106), (105, 9, 107), (105, 10, 108), (105, 11, 109), (105, 12, 110), (105, 17, 111), (105, 18, 112), (105, 19, 113), (105, 20, 114), (105, 24, 115), (105, 26, 116), (105, 29, 117), (105, 30, 118)]
def AT : Nat → Nat → Nat → Option Nat
  | 0, _, _ => none
  | m + 1, a, k => match asgL[m]? with
    | some (o, j, b) => bif (Nat.beq a o && Nat.beq k j) then some b else AT m a k
    | none => AT m a k
def rfr : Nat → Nat → Bool
  | 0, _ => true
  | m + 1, n => (match asgL[m]? with
    | some (o, _, _) => !(Nat.beq o n)
    | none => true) && rfr m n
theorem AT_none : ∀ (m n k : Nat), rfr m n = true → AT m n k = none
  | 0, _, _, _ => rfl
  | m + 1, n, k, h => by
    unfold rfr at h
    unfold AT
    cases e : asgL[m]? with
    | none =>
      rw [e] at h
      dsimp only at h ⊢
      rw [Bool.true_and] at h
      exact AT_none m n k h
    | some q =>
      obtain ⟨o, j, b⟩ := q
      rw [e] at h
      dsimp only at h ⊢
      rw [Bool.and_eq_true] at h
      have h1 : Nat.beq n o = false := by
        cases h2 : Nat.beq n o with
        | false => rfl
        | true =>
          have := Nat.eq_of_beq_eq_true h2
          subst this
          have h3 := h.1
          rw [h2] at h3
          cases h3
      rw [h1]
      exact AT_none m n k h.2
theorem AT_s {m o j b : Nat} (h : asgL[m]? = some (o, j, b)) (a k : Nat) : AT (m + 1) a k = if a = o ∧ k = j then some b else AT m a k := by
  rw [AT, h]
  dsimp only
  by_cases h1 : a = o ∧ k = j
  · rw [if_pos h1, h1.1, h1.2, Nat.beq_refl, Nat.beq_refl]; rfl
  · rw [if_neg h1]
    cases h2 : (Nat.beq a o && Nat.beq k j) with
    | false => rfl
    | true =>
      rw [Bool.and_eq_true] at h2
      exact absurd ⟨Nat.eq_of_beq_eq_true h2.1, Nat.eq_of_beq_eq_true h2.2⟩ h1
def gIn (L : Nat) (I0 : qI) (n m S : Nat) (g : qG) (I : qI) : Prop :=
  g.2.2.1 = n ∧ g.2.2.2 = S ∧ g.1 0 = some (110, L) ∧ (∀ a, 4 ≤ a → a < n → g.1 a = qK0 a) ∧ (∀ a k, 4 ≤ a → g.2.1 a k = AT m a k) ∧ (∀ b, 4 ≤ b → b < n → b ≠ 12 → ∀ j, I b j = 0) ∧ I 0 = I0 0
section INITS
variable {L n m S n' m' S' d mm pc pc' : Nat} {I0 I : qI} {g : qG} {J : qJ} {Q : qQ} {ls st : List Value}
theorem gIn.al (G : gIn L I0 n m S g I) {k c : Nat} (hk : qK0 n = some (k, c)) (hf : rfr m n = true) (h4 : 4 ≤ n) (hn : n + 1 = n') (hs : S + c = S') : gIn L I0 n' m S' (qmk k c g) (qmI g I) := by
  obtain ⟨g1, g2, g3, g4, g5, g6, g7⟩ := G
  subst hn hs
  refine ⟨by show g.2.2.1 + 1 = _; omega, by show g.2.2.2 + c = _; omega, ?_, fun a h1 h2 => ?_, fun a j h1 => ?_, fun b h1 h2 h3 j => ?_, ?_⟩
  · rw [zmk_K (by omega)]; exact g3
  · by_cases e : a = n
    · rw [e, hk, ← g1]; exact zmk_s
    · rw [zmk_K (by omega)]; exact g4 a h1 (by omega)
  · by_cases e : a = n
    · rw [e, AT_none m n j hf]
      show va_up g.2.1 g.2.2.1 (fun _ => none) n j = none
      rw [g1, zv_s]
    · rw [zmk_A (by omega)]; exact g5 a j h1
  · by_cases e : b = n
    · show va_up I g.2.2.1 (fun _ => 0) b j = 0
      rw [e, ← g1, zv_s]
    · show va_up I g.2.2.1 (fun _ => 0) b j = 0
      rw [zv_a (by omega)]; exact g6 b h1 (by omega) h3 j
  · show va_up I g.2.2.1 (fun _ => 0) 0 = I0 0
    rw [zv_a (by omega)]; exact g7
theorem gIn.pt (G : gIn L I0 n m S g I) {o k b : Nat} (ha : asgL[m]? = some (o, k, b)) (hm : m + 1 = m') : gIn L I0 n m' S (g.1, qw g.2.1 o k (some b), g.2.2) I := by
  obtain ⟨g1, g2, g3, g4, g5, g6, g7⟩ := G
  subst hm
  refine ⟨g1, g2, g3, g4, fun a j h1 => ?_, g6, g7⟩
  show qw g.2.1 o k (some b) a j = _
  rw [AT_s ha]
  by_cases e : a = o
  · subst e
    by_cases e2 : j = k
    · subst e2; rw [zu_s, if_pos ⟨rfl, rfl⟩]
    · rw [zu_k e2, if_neg (fun h => e2 h.2)]; exact g5 a j h1
  · rw [zu_ab e, if_neg (fun h => e h.1)]; exact g5 a j h1
theorem gIn.pi (G : gIn L I0 n m S g I) {k : Nat} {v : Int32} : gIn L I0 n m S g (qw I 12 k v) := by
  obtain ⟨g1, g2, g3, g4, g5, g6, g7⟩ := G
  exact ⟨g1, g2, g3, g4, g5, fun b h1 h2 h3 j => by rw [zu_a h3]; exact g6 b h1 h2 h3 j, by rw [zu_a (by omega)]; exact g7⟩
theorem gIn.ob (G : gIn L I0 n m S g I) {o c k : Nat} (ho : qK0 o = some (c, k)) (h : 4 ≤ o ∧ o < n) : qob g o c = true := qob_of (by rw [G.2.2.2.1 o h.1 h.2]; exact ho)
theorem i_new (G : gIn L I0 n m S g I) {ix a b : Nat} (hx : qP mm pc = some (.new ix, 3, a, b, 0)) (hp : pc + 3 = pc') (ha : Nat.beq a 99 = false) (hk : qK0 n = some (a, b)) (hf : rfr m n = true) (h4 : 4 ≤ n) (hn : n + 1 = n') (hs : S + b = S') (k : ∀ g' I' J', gIn L I0 n' m S' g' I' → qev d mm (pc', ls, .ref n :: st, g', I', J') Q) : qev d mm (pc, ls, st, g, I, J) Q := by
  refine e_new hx hp ha ?_
  rw [G.1]
  exact k _ _ _ (G.al hk hf h4 hn hs)
theorem i_newa (G : gIn L I0 n m S g I) {ty : Jvm.ClassFile.ArrayType} {v : Int32} (t c : Nat) (hx : qP mm pc = some (.newarray ty, 2, 0, 0, 0)) (ht : (ty = .int ∧ t = 100) ∨ (ty = .byte ∧ t = 101) ∨ (ty = .long ∧ t = 102)) (hp : pc + 2 = pc') (hv : v = nI c) (hc : c ≤ 1000000) (hk : qK0 n = some (t, c)) (hf : rfr m n = true) (h4 : 4 ≤ n) (hn : n + 1 = n') (hs : S + c = S') (k : ∀ g' I' J', gIn L I0 n' m S' g' I' → qev d mm (pc', ls, .ref n :: st, g', I', J') Q) : qev d mm (pc, ls, .int v :: st, g, I, J) Q := by
  refine e_newa t c hx ht hp hv hc ?_
  rw [G.1]
  exact k _ _ _ (G.al hk hf h4 hn hs)
theorem i_anew (G : gIn L I0 n m S g I) {ix a : Nat} {v : Int32} (c : Nat) (hx : qP mm pc = some (.anewarray ix, 3, a, 0, 0)) (hp : pc + 3 = pc') (hv : v = nI c) (hc : c ≤ 1000000) (hk : qK0 n = some (a, c)) (hf : rfr m n = true) (h4 : 4 ≤ n) (hn : n + 1 = n') (hs : S + c = S') (k : ∀ g' I' J', gIn L I0 n' m S' g' I' → qev d mm (pc', ls, .ref n :: st, g', I', J') Q) : qev d mm (pc, ls, .int v :: st, g, I, J) Q := by
  refine e_anew c hx hp hv hc ?_
  rw [G.1]
  exact k _ _ _ (G.al hk hf h4 hn hs)
theorem i_putA (G : gIn L I0 n m S g I) {ix a b c o v : Nat} (hx : qP mm pc = some (.putfield ix, 3, a, b, 2)) (hp : pc + 3 = pc') (ho : qK0 o = some (a, c)) (hon : 4 ≤ o ∧ o < n) (ha : asgL[m]? = some (o, b, v)) (hm : m + 1 = m') (k : ∀ g', gIn L I0 n m' S g' I → qev d mm (pc', ls, st, g', I, J) Q) : qev d mm (pc, ls, .ref v :: .ref o :: st, g, I, J) Q :=
  e_putA (v := some v) hx hp (G.ob ho hon) (k _ (G.pt ha hm))
theorem i_putI (G : gIn L I0 n m S g I) {ix a b c : Nat} {v : Int32} (hx : qP mm pc = some (.putfield ix, 3, a, b, 0)) (hp : pc + 3 = pc') (ho : qK0 12 = some (a, c)) (hon : 12 < n) (k : ∀ I', gIn L I0 n m S g I' → qev d mm (pc', ls, st, g, I', J) Q) : qev d mm (pc, ls, .int v :: .ref 12 :: st, g, I, J) Q :=
  e_putI hx hp (G.ob ho (by omega)) (k _ G.pi)
theorem i_getR (G : gIn L I0 n m S g I) {ix a b c o v : Nat} (hx : qP mm pc = some (.getfield ix, 3, a, b, 2)) (hp : pc + 3 = pc') (ho : qK0 o = some (a, c)) (hon : 4 ≤ o ∧ o < n) (hv : AT m o b = some v) (k : qev d mm (pc', ls, .ref v :: st, g, I, J) Q) : qev d mm (pc, ls, .ref o :: st, g, I, J) Q :=
  e_getR hx hp (G.ob ho hon) (by rw [G.2.2.2.2.1 o b hon.1]; exact hv) k
theorem i_aast (G : gIn L I0 n m S g I) {o c N v w : Nat} {i : Int32} (j : Nat) (hx : qP mm pc = some (.aastore, 1, 0, 0, 0)) (hp : pc + 1 = pc') (ho : qK0 o = some (c, N)) (hon : 4 ≤ o ∧ o < n) (hc : (Nat.beq c 103 || (Nat.beq c 104 || Nat.beq c 105)) = true) (hv : qK0 v = some (qel c, w)) (hvn : 4 ≤ v ∧ v < n) (hi : i = nI j) (hj : j < N) (hN : N < 2 ^ 31) (ha : asgL[m]? = some (o, j, v)) (hm : m + 1 = m') (k : ∀ g', gIn L I0 n m' S g' I → qev d mm (pc', ls, st, g', I, J) Q) : qev d mm (pc, ls, .ref v :: .int i :: .ref o :: st, g, I, J) Q :=
  e_aast j hx hp (by rw [G.2.2.2.1 o hon.1 hon.2]; exact ho) hc (G.ob hv hvn) hi hj hN (k _ (G.pt ha hm))
theorem i_ser (G : gIn L I0 n m S g I) {o : Nat} (ho : qK0 o = some (6, 2)) (hon : 4 ≤ o ∧ o < n) (hk : qK0 n = some (100, 24)) (hf : rfr m n = true) (ha : asgL[m]? = some (o, 0, n)) (hn : n + 1 = n') (hm : m + 1 = m') (hs : S + 24 = S') (k : ∀ g' I' J', gIn L I0 n' m' S' g' I' → Q none g' I' J') : qC d 72 [.ref o] g I J Q := by
  show qev d 72 (0, [.ref o], [], g, I, J) Q
  refine e_next (pc' := 1) rfl rfl ?_
  refine e_next (pc' := 4) rfl rfl ?_
  refine e_next (pc' := 5) rfl rfl ?_
  refine e_bipush (pc' := 7) rfl rfl kb_24 ?_
  refine i_newa G (pc' := 9) 100 24 rfl (Or.inl ⟨rfl, rfl⟩) rfl rfl (by omega) hk hf (by omega) hn hs (fun g1 I1 J1 G1 => ?_)
  refine i_putA G1 (pc' := 12) rfl rfl ho (by omega) ha hm (fun g2 G2 => ?_)
  exact qev_ret rfl rfl (k g2 I1 J1 G2)
theorem mach_a : ∀ i, i < 24 → qK0 (35 + 2 * i) = some (6, 2) ∧ qK0 (36 + 2 * i) = some (100, 24) ∧ rfr (32 + 2 * i) (35 + 2 * i) = true ∧ rfr (32 + 2 * i) (36 + 2 * i) = true ∧ asgL[32 + 2 * i]? = some (35 + 2 * i, 0, 36 + 2 * i) ∧ asgL[33 + 2 * i]? = some (34, i, 35 + 2 * i) ∧ AT (32 + 2 * i) 33 1 = some 34 := by decide +kernel
theorem i_mach_l (k : ∀ g' I' J', gIn L I0 83 80 1611 g' I' → Q none g' I' J') : ∀ f i (g : qG) (I : qI) (J : qJ), i + f = 24 → gIn L I0 (35 + 2 * i) (32 + 2 * i) (987 + 26 * i) g I → qev (d + 1) 41 (20, [.ref 33, .ref 12, .int (nI i)], [], g, I, J) Q
  | 0, i, g, I, J, hi, G => by
    have e : i = 24 := by omega
    subst e
    refine e_next (pc' := 21) rfl rfl ?_
    refine e_bipush (v := nI 24) (pc' := 23) rfl rfl (by decide +kernel) ?_
    refine e_icmp True (pc' := 26) rfl rfl (by decide +kernel) (fun _ => ?_) (fun hc => absurd trivial hc)
    exact qev_ret rfl rfl (k g I J G)
  | f + 1, i, g, I, J, hi, G => by
    obtain ⟨a1, a2, a3, a4, a5, a6, a7⟩ := mach_a i (by omega)
    refine e_next (pc' := 21) rfl rfl ?_
    refine e_bipush (v := nI 24) (pc' := 23) rfl rfl (by decide +kernel) ?_
    refine e_icmp (nI 24 ≤ nI i) (pc' := 26) rfl rfl e_d (fun hc => ?_) (fun _ => ?_)
    · rw [nI_leI (by omega) (by omega)] at hc; omega
    refine e_next (pc' := 27) rfl rfl ?_
    refine i_getR G (pc' := 30) rfl rfl (c := 3) rfl (by omega) a7 ?_
    refine e_next (pc' := 31) rfl rfl ?_
    refine i_new G (pc' := 34) rfl rfl rfl a1 a3 (by omega) (n' := 36 + 2 * i) (by omega) (S' := 987 + 26 * i + 2) rfl (fun g1 I1 J1 G1 => ?_)
    refine e_next (pc' := 35) rfl rfl ?_
    refine e_cgV (pc' := 38) rfl (e_sV (as := []) (fun _ => rfl) (Or.inr rfl) rfl (G1.ob a1 (by omega)) rfl rfl (Nat.le_of_ble_eq_true rfl) (Nat.le_of_ble_eq_true rfl) rfl) ?_
    refine i_ser G1 a1 (by omega) a2 a4 a5 (n' := 35 + 2 * (i + 1)) (by omega) (m' := 33 + 2 * i) (by omega) (S' := 987 + 26 * (i + 1)) (by omega) (fun g2 I2 J2 G2 => ⟨rfl, ?_⟩)
    refine i_aast G2 i (pc' := 39) rfl rfl (o := 34) (c := 103) (N := 24) rfl (by omega) rfl a1 (by omega) rfl (by omega) (by omega) a6 (m' := 32 + 2 * (i + 1)) (by omega) (fun g3 G3 => ?_)
    refine e_iinc (pc' := 42) (v := nI 1) (x := nI i) rfl rfl (by decide +kernel) rfl rfl ?_
    refine e_next (pc' := 20) rfl rfl ?_
    rw [nI_add]
    exact i_mach_l k f (i + 1) g3 I2 J2 (by omega) G3
theorem i_c96_5 (G : gIn L I0 6 0 20 g I) (k : ∀ g' I' J', gIn L I0 7 1 340 g' I' → Q none g' I' J') : qC d 96 [.ref 5] g I J Q := by
  show qev d 96 (0, [.ref 5], [], g, I, J) Q
  refine e_next (pc' := 1) rfl rfl ?_
  refine e_next (pc' := 4) rfl rfl ?_
  refine e_next (pc' := 5) rfl rfl ?_
  refine e_sipush (v := nI 320) (pc' := 8) rfl rfl (by decide +kernel) ?_
  refine i_newa G (pc' := 10) 100 320 rfl (Or.inl ⟨rfl, rfl⟩) rfl rfl (by omega) rfl (by decide +kernel) (by omega) (n' := 7) rfl (S' := 340) rfl (fun g1 I1 J1 G1 => ?_)
  refine i_putA G1 (pc' := 13) rfl rfl rfl (by omega) rfl (m' := 1) rfl (fun g2 G2 => ?_)
  exact qev_ret rfl rfl (k g2 I1 J1 G2)
theorem i_c29_7 (G : gIn L I0 8 2 345 g I) (k : ∀ g' I' J', gIn L I0 11 5 682 g' I' → Q none g' I' J') : qC d 29 [.ref 7, .int (nI 320)] g I J Q := by
  show qev d 29 (0, [.ref 7, .int (nI 320)], [], g, I, J) Q
  refine e_next (pc' := 1) rfl rfl ?_
  refine e_next (pc' := 4) rfl rfl ?_
  refine e_next (pc' := 5) rfl rfl ?_
  refine e_bipush (v := nI 9) (pc' := 7) rfl rfl (by decide +kernel) ?_
  refine i_newa G (pc' := 9) 100 9 rfl (Or.inl ⟨rfl, rfl⟩) rfl rfl (by omega) rfl (by decide +kernel) (by omega) (n' := 9) rfl (S' := 354) rfl (fun g1 I1 J1 G1 => ?_)
  refine i_putA G1 (pc' := 12) rfl rfl rfl (by omega) rfl (m' := 3) rfl (fun g2 G2 => ?_)
  refine e_next (pc' := 13) rfl rfl ?_
  refine e_bipush (v := nI 8) (pc' := 15) rfl rfl (by decide +kernel) ?_
  refine i_newa G2 (pc' := 17) 100 8 rfl (Or.inl ⟨rfl, rfl⟩) rfl rfl (by omega) rfl (by decide +kernel) (by omega) (n' := 10) rfl (S' := 362) rfl (fun g3 I3 J3 G3 => ?_)
  refine i_putA G3 (pc' := 20) rfl rfl rfl (by omega) rfl (m' := 4) rfl (fun g4 G4 => ?_)
  refine e_next (pc' := 21) rfl rfl ?_
  refine e_next (pc' := 22) rfl rfl ?_
  refine e_if True (pc' := 25) rfl rfl (by decide +kernel) (fun hc => ?_) (fun hc => absurd trivial hc)
  refine e_next (pc' := 30) rfl rfl ?_
  refine i_newa G4 (pc' := 32) 100 320 rfl (Or.inl ⟨rfl, rfl⟩) rfl rfl (by omega) rfl (by decide +kernel) (by omega) (n' := 11) rfl (S' := 682) rfl (fun g5 I5 J5 G5 => ?_)
  refine i_putA G5 (pc' := 35) rfl rfl rfl (by omega) rfl (m' := 5) rfl (fun g6 G6 => ?_)
  exact qev_ret rfl rfl (k g6 I5 J5 G6)
theorem i_c47_11 (G : gIn L I0 12 6 689 g I) (k : ∀ g' I' J', gIn L I0 12 8 689 g' I' → Q none g' I' J') : qC d 47 [.ref 11, .ref 5, .ref 7] g I J Q := by
  show qev d 47 (0, [.ref 11, .ref 5, .ref 7], [], g, I, J) Q
  refine e_next (pc' := 1) rfl rfl ?_
  refine e_next (pc' := 4) rfl rfl ?_
  refine e_next (pc' := 5) rfl rfl ?_
  refine e_next (pc' := 6) rfl rfl ?_
  refine i_putA G (pc' := 9) rfl rfl rfl (by omega) rfl (m' := 7) rfl (fun g1 G1 => ?_)
  refine e_next (pc' := 10) rfl rfl ?_
  refine e_next (pc' := 11) rfl rfl ?_
  refine i_putA G1 (pc' := 14) rfl rfl rfl (by omega) rfl (m' := 8) rfl (fun g2 G2 => ?_)
  exact qev_ret rfl rfl (k g2 I J G2)
theorem i_c0_12 (G : gIn L I0 13 9 698 g I) (k : ∀ g' I' J', gIn L I0 33 29 960 g' I' → Q none g' I' J') : qC (d + 1) 0 [.ref 12] g I J Q := by
  show qev (d + 1) 0 (0, [.ref 12], [], g, I, J) Q
  refine e_next (pc' := 1) rfl rfl ?_
  refine e_next (pc' := 4) rfl rfl ?_
  refine e_next (pc' := 5) rfl rfl ?_
  refine e_bipush (v := nI 24) (pc' := 7) rfl rfl (by decide +kernel) ?_
  refine i_newa G (pc' := 9) 100 24 rfl (Or.inl ⟨rfl, rfl⟩) rfl rfl (by omega) rfl (by decide +kernel) (by omega) (n' := 14) rfl (S' := 722) rfl (fun g1 I1 J1 G1 => ?_)
  refine i_putA G1 (pc' := 12) rfl rfl rfl (by omega) rfl (m' := 10) rfl (fun g2 G2 => ?_)
  refine e_next (pc' := 13) rfl rfl ?_
  refine i_new G2 (pc' := 16) rfl rfl rfl rfl (by decide +kernel) (by omega) (n' := 15) rfl (S' := 724) rfl (fun g3 I3 J3 G3 => ?_)
  refine e_next (pc' := 17) rfl rfl ?_
  refine e_cgV (pc' := 20) rfl (e_sV (as := []) (fun _ => rfl) (Or.inr rfl) rfl (G3.ob rfl (by omega)) rfl rfl (Nat.le_of_ble_eq_true rfl) (Nat.le_of_ble_eq_true rfl) rfl) ?_
  refine i_ser G3 rfl (by omega) rfl (by decide +kernel) rfl (n' := 16) rfl (m' := 11) rfl (S' := 748) rfl (fun g4 I4 J4 G4 => ⟨rfl, ?_⟩)
  refine i_putA G4 (pc' := 23) rfl rfl rfl (by omega) rfl (m' := 12) rfl (fun g5 G5 => ?_)
  refine e_next (pc' := 24) rfl rfl ?_
  refine i_new G5 (pc' := 27) rfl rfl rfl rfl (by decide +kernel) (by omega) (n' := 17) rfl (S' := 750) rfl (fun g6 I6 J6 G6 => ?_)
  refine e_next (pc' := 28) rfl rfl ?_
  refine e_cgV (pc' := 31) rfl (e_sV (as := []) (fun _ => rfl) (Or.inr rfl) rfl (G6.ob rfl (by omega)) rfl rfl (Nat.le_of_ble_eq_true rfl) (Nat.le_of_ble_eq_true rfl) rfl) ?_
  refine i_ser G6 rfl (by omega) rfl (by decide +kernel) rfl (n' := 18) rfl (m' := 13) rfl (S' := 774) rfl (fun g7 I7 J7 G7 => ⟨rfl, ?_⟩)
  refine i_putA G7 (pc' := 34) rfl rfl rfl (by omega) rfl (m' := 14) rfl (fun g8 G8 => ?_)
  refine e_next (pc' := 35) rfl rfl ?_
  refine i_new G8 (pc' := 38) rfl rfl rfl rfl (by decide +kernel) (by omega) (n' := 19) rfl (S' := 776) rfl (fun g9 I9 J9 G9 => ?_)
  refine e_next (pc' := 39) rfl rfl ?_
  refine e_cgV (pc' := 42) rfl (e_sV (as := []) (fun _ => rfl) (Or.inr rfl) rfl (G9.ob rfl (by omega)) rfl rfl (Nat.le_of_ble_eq_true rfl) (Nat.le_of_ble_eq_true rfl) rfl) ?_
  refine i_ser G9 rfl (by omega) rfl (by decide +kernel) rfl (n' := 20) rfl (m' := 15) rfl (S' := 800) rfl (fun g10 I10 J10 G10 => ⟨rfl, ?_⟩)
  refine i_putA G10 (pc' := 45) rfl rfl rfl (by omega) rfl (m' := 16) rfl (fun g11 G11 => ?_)
  refine e_next (pc' := 46) rfl rfl ?_
  refine i_new G11 (pc' := 49) rfl rfl rfl rfl (by decide +kernel) (by omega) (n' := 21) rfl (S' := 802) rfl (fun g12 I12 J12 G12 => ?_)
  refine e_next (pc' := 50) rfl rfl ?_
  refine e_cgV (pc' := 53) rfl (e_sV (as := []) (fun _ => rfl) (Or.inr rfl) rfl (G12.ob rfl (by omega)) rfl rfl (Nat.le_of_ble_eq_true rfl) (Nat.le_of_ble_eq_true rfl) rfl) ?_
  refine i_ser G12 rfl (by omega) rfl (by decide +kernel) rfl (n' := 22) rfl (m' := 17) rfl (S' := 826) rfl (fun g13 I13 J13 G13 => ⟨rfl, ?_⟩)
  refine i_putA G13 (pc' := 56) rfl rfl rfl (by omega) rfl (m' := 18) rfl (fun g14 G14 => ?_)
  refine e_next (pc' := 57) rfl rfl ?_
  refine i_new G14 (pc' := 60) rfl rfl rfl rfl (by decide +kernel) (by omega) (n' := 23) rfl (S' := 828) rfl (fun g15 I15 J15 G15 => ?_)
  refine e_next (pc' := 61) rfl rfl ?_
  refine e_cgV (pc' := 64) rfl (e_sV (as := []) (fun _ => rfl) (Or.inr rfl) rfl (G15.ob rfl (by omega)) rfl rfl (Nat.le_of_ble_eq_true rfl) (Nat.le_of_ble_eq_true rfl) rfl) ?_
  refine i_ser G15 rfl (by omega) rfl (by decide +kernel) rfl (n' := 24) rfl (m' := 19) rfl (S' := 852) rfl (fun g16 I16 J16 G16 => ⟨rfl, ?_⟩)
  refine i_putA G16 (pc' := 67) rfl rfl rfl (by omega) rfl (m' := 20) rfl (fun g17 G17 => ?_)
  refine e_next (pc' := 68) rfl rfl ?_
  refine e_iconst (v := nI 4) (pc' := 69) rfl rfl (by decide +kernel) ?_
  refine i_anew G17 (pc' := 72) 4 rfl rfl rfl (by omega) rfl (by decide +kernel) (by omega) (n' := 25) rfl (S' := 856) rfl (fun g18 I18 J18 G18 => ?_)
  refine e_next (pc' := 73) rfl rfl ?_
  refine e_iconst (v := nI 0) (pc' := 74) rfl rfl (by decide +kernel) ?_
  refine i_new G18 (pc' := 77) rfl rfl rfl rfl (by decide +kernel) (by omega) (n' := 26) rfl (S' := 858) rfl (fun g19 I19 J19 G19 => ?_)
  refine e_next (pc' := 78) rfl rfl ?_
  refine e_cgV (pc' := 81) rfl (e_sV (as := []) (fun _ => rfl) (Or.inr rfl) rfl (G19.ob rfl (by omega)) rfl rfl (Nat.le_of_ble_eq_true rfl) (Nat.le_of_ble_eq_true rfl) rfl) ?_
  refine i_ser G19 rfl (by omega) rfl (by decide +kernel) rfl (n' := 27) rfl (m' := 21) rfl (S' := 882) rfl (fun g20 I20 J20 G20 => ⟨rfl, ?_⟩)
  refine i_aast G20 0 (pc' := 82) rfl rfl rfl (by omega) rfl rfl (by omega) rfl (by omega) (by omega) rfl (m' := 22) rfl (fun g21 G21 => ?_)
  refine e_next (pc' := 83) rfl rfl ?_
  refine e_iconst (v := nI 1) (pc' := 84) rfl rfl (by decide +kernel) ?_
  refine i_new G21 (pc' := 87) rfl rfl rfl rfl (by decide +kernel) (by omega) (n' := 28) rfl (S' := 884) rfl (fun g22 I22 J22 G22 => ?_)
  refine e_next (pc' := 88) rfl rfl ?_
  refine e_cgV (pc' := 91) rfl (e_sV (as := []) (fun _ => rfl) (Or.inr rfl) rfl (G22.ob rfl (by omega)) rfl rfl (Nat.le_of_ble_eq_true rfl) (Nat.le_of_ble_eq_true rfl) rfl) ?_
  refine i_ser G22 rfl (by omega) rfl (by decide +kernel) rfl (n' := 29) rfl (m' := 23) rfl (S' := 908) rfl (fun g23 I23 J23 G23 => ⟨rfl, ?_⟩)
  refine i_aast G23 1 (pc' := 92) rfl rfl rfl (by omega) rfl rfl (by omega) rfl (by omega) (by omega) rfl (m' := 24) rfl (fun g24 G24 => ?_)
  refine e_next (pc' := 93) rfl rfl ?_
  refine e_iconst (v := nI 2) (pc' := 94) rfl rfl (by decide +kernel) ?_
  refine i_new G24 (pc' := 97) rfl rfl rfl rfl (by decide +kernel) (by omega) (n' := 30) rfl (S' := 910) rfl (fun g25 I25 J25 G25 => ?_)
  refine e_next (pc' := 98) rfl rfl ?_
  refine e_cgV (pc' := 101) rfl (e_sV (as := []) (fun _ => rfl) (Or.inr rfl) rfl (G25.ob rfl (by omega)) rfl rfl (Nat.le_of_ble_eq_true rfl) (Nat.le_of_ble_eq_true rfl) rfl) ?_
  refine i_ser G25 rfl (by omega) rfl (by decide +kernel) rfl (n' := 31) rfl (m' := 25) rfl (S' := 934) rfl (fun g26 I26 J26 G26 => ⟨rfl, ?_⟩)
  refine i_aast G26 2 (pc' := 102) rfl rfl rfl (by omega) rfl rfl (by omega) rfl (by omega) (by omega) rfl (m' := 26) rfl (fun g27 G27 => ?_)
  refine e_next (pc' := 103) rfl rfl ?_
  refine e_iconst (v := nI 3) (pc' := 104) rfl rfl (by decide +kernel) ?_
  refine i_new G27 (pc' := 107) rfl rfl rfl rfl (by decide +kernel) (by omega) (n' := 32) rfl (S' := 936) rfl (fun g28 I28 J28 G28 => ?_)
  refine e_next (pc' := 108) rfl rfl ?_
  refine e_cgV (pc' := 111) rfl (e_sV (as := []) (fun _ => rfl) (Or.inr rfl) rfl (G28.ob rfl (by omega)) rfl rfl (Nat.le_of_ble_eq_true rfl) (Nat.le_of_ble_eq_true rfl) rfl) ?_
  refine i_ser G28 rfl (by omega) rfl (by decide +kernel) rfl (n' := 33) rfl (m' := 27) rfl (S' := 960) rfl (fun g29 I29 J29 G29 => ⟨rfl, ?_⟩)
  refine i_aast G29 3 (pc' := 112) rfl rfl rfl (by omega) rfl rfl (by omega) rfl (by omega) (by omega) rfl (m' := 28) rfl (fun g30 G30 => ?_)
  refine i_putA G30 (pc' := 115) rfl rfl rfl (by omega) rfl (m' := 29) rfl (fun g31 G31 => ?_)
  refine e_next (pc' := 116) rfl rfl ?_
  refine e_iconst (v := nI 2) (pc' := 117) rfl rfl (by decide +kernel) ?_
  refine i_putI G31 (pc' := 120) rfl rfl rfl (by omega) (fun I32 G32 => ?_)
  refine e_next (pc' := 121) rfl rfl ?_
  refine e_iconst (v := nI 2) (pc' := 122) rfl rfl (by decide +kernel) ?_
  refine i_putI G32 (pc' := 125) rfl rfl rfl (by omega) (fun I33 G33 => ?_)
  exact qev_ret rfl rfl (k g31 I33 J29 G33)
theorem i_c41_33 (G : gIn L I0 34 30 963 g I) (k : ∀ g' I' J', gIn L I0 83 80 1611 g' I' → Q none g' I' J') : qC (d + 1) 41 [.ref 33, .ref 12] g I J Q := by
  show qev (d + 1) 41 (0, [.ref 33, .ref 12, qpad], [], g, I, J) Q
  refine e_next (pc' := 1) rfl rfl ?_
  refine e_next (pc' := 4) rfl rfl ?_
  refine e_next (pc' := 5) rfl rfl ?_
  refine e_bipush (v := nI 24) (pc' := 7) rfl rfl (by decide +kernel) ?_
  refine i_anew G (pc' := 10) 24 rfl rfl rfl (by omega) rfl (by decide +kernel) (by omega) (n' := 35) rfl (S' := 987) rfl (fun g1 I1 J1 G1 => ?_)
  refine i_putA G1 (pc' := 13) rfl rfl rfl (by omega) rfl (m' := 31) rfl (fun g2 G2 => ?_)
  refine e_next (pc' := 14) rfl rfl ?_
  refine e_next (pc' := 15) rfl rfl ?_
  refine i_putA G2 (pc' := 18) rfl rfl rfl (by omega) rfl (m' := 32) rfl (fun g3 G3 => ?_)
  refine e_iconst (v := nI 0) (pc' := 19) rfl rfl (by decide +kernel) ?_
  refine e_next (pc' := 20) rfl rfl ?_
  refine i_mach_l (L := L) (I0 := I0) (d := d) (fun g4 I4 J4 G4 => ?_) 24 0 g3 I1 J1 (by omega) G3
  exact k g4 I4 J4 G4
theorem i_c68_83 (G : gIn L I0 84 81 1614 g I) (k : ∀ g' I' J', gIn L I0 87 84 1689 g' I' → Q none g' I' J') : qC d 68 [.ref 83] g I J Q := by
  show qev d 68 (0, [.ref 83], [], g, I, J) Q
  refine e_next (pc' := 1) rfl rfl ?_
  refine e_next (pc' := 4) rfl rfl ?_
  refine e_next (pc' := 5) rfl rfl ?_
  refine e_bipush (v := nI 25) (pc' := 7) rfl rfl (by decide +kernel) ?_
  refine i_newa G (pc' := 9) 100 25 rfl (Or.inl ⟨rfl, rfl⟩) rfl rfl (by omega) rfl (by decide +kernel) (by omega) (n' := 85) rfl (S' := 1639) rfl (fun g1 I1 J1 G1 => ?_)
  refine i_putA G1 (pc' := 12) rfl rfl rfl (by omega) rfl (m' := 82) rfl (fun g2 G2 => ?_)
  refine e_next (pc' := 13) rfl rfl ?_
  refine e_bipush (v := nI 25) (pc' := 15) rfl rfl (by decide +kernel) ?_
  refine i_newa G2 (pc' := 17) 100 25 rfl (Or.inl ⟨rfl, rfl⟩) rfl rfl (by omega) rfl (by decide +kernel) (by omega) (n' := 86) rfl (S' := 1664) rfl (fun g3 I3 J3 G3 => ?_)
  refine i_putA G3 (pc' := 20) rfl rfl rfl (by omega) rfl (m' := 83) rfl (fun g4 G4 => ?_)
  refine e_next (pc' := 21) rfl rfl ?_
  refine e_bipush (v := nI 25) (pc' := 23) rfl rfl (by decide +kernel) ?_
  refine i_newa G4 (pc' := 25) 100 25 rfl (Or.inl ⟨rfl, rfl⟩) rfl rfl (by omega) rfl (by decide +kernel) (by omega) (n' := 87) rfl (S' := 1689) rfl (fun g5 I5 J5 G5 => ?_)
  refine i_putA G5 (pc' := 28) rfl rfl rfl (by omega) rfl (m' := 84) rfl (fun g6 G6 => ?_)
  exact qev_ret rfl rfl (k g6 I5 J5 G6)
theorem i_c78_89 (G : gIn L I0 90 87 1719 g I) (k : ∀ g' I' J', gIn L I0 93 90 1979 g' I' → Q none g' I' J') : qC d 78 [.ref 89] g I J Q := by
  show qev d 78 (0, [.ref 89], [], g, I, J) Q
  refine e_next (pc' := 1) rfl rfl ?_
  refine e_next (pc' := 4) rfl rfl ?_
  refine e_next (pc' := 5) rfl rfl ?_
  refine e_bipush (v := nI 8) (pc' := 7) rfl rfl (by decide +kernel) ?_
  refine i_newa G (pc' := 9) 100 8 rfl (Or.inl ⟨rfl, rfl⟩) rfl rfl (by omega) rfl (by decide +kernel) (by omega) (n' := 91) rfl (S' := 1727) rfl (fun g1 I1 J1 G1 => ?_)
  refine i_putA G1 (pc' := 12) rfl rfl rfl (by omega) rfl (m' := 88) rfl (fun g2 G2 => ?_)
  refine e_next (pc' := 13) rfl rfl ?_
  refine e_sipush (v := nI 192) (pc' := 16) rfl rfl (by decide +kernel) ?_
  refine i_newa G2 (pc' := 18) 100 192 rfl (Or.inl ⟨rfl, rfl⟩) rfl rfl (by omega) rfl (by decide +kernel) (by omega) (n' := 92) rfl (S' := 1919) rfl (fun g3 I3 J3 G3 => ?_)
  refine i_putA G3 (pc' := 21) rfl rfl rfl (by omega) rfl (m' := 89) rfl (fun g4 G4 => ?_)
  refine e_next (pc' := 22) rfl rfl ?_
  refine e_bipush (v := nI 60) (pc' := 24) rfl rfl (by decide +kernel) ?_
  refine i_newa G4 (pc' := 26) 100 60 rfl (Or.inl ⟨rfl, rfl⟩) rfl rfl (by omega) rfl (by decide +kernel) (by omega) (n' := 93) rfl (S' := 1979) rfl (fun g5 I5 J5 G5 => ?_)
  refine i_putA G5 (pc' := 29) rfl rfl rfl (by omega) rfl (m' := 90) rfl (fun g6 G6 => ?_)
  exact qev_ret rfl rfl (k g6 I5 J5 G6)
theorem i_c78_93 (G : gIn L I0 94 91 1983 g I) (k : ∀ g' I' J', gIn L I0 97 94 2243 g' I' → Q none g' I' J') : qC d 78 [.ref 93] g I J Q := by
  show qev d 78 (0, [.ref 93], [], g, I, J) Q
  refine e_next (pc' := 1) rfl rfl ?_
  refine e_next (pc' := 4) rfl rfl ?_
  refine e_next (pc' := 5) rfl rfl ?_
  refine e_bipush (v := nI 8) (pc' := 7) rfl rfl (by decide +kernel) ?_
  refine i_newa G (pc' := 9) 100 8 rfl (Or.inl ⟨rfl, rfl⟩) rfl rfl (by omega) rfl (by decide +kernel) (by omega) (n' := 95) rfl (S' := 1991) rfl (fun g1 I1 J1 G1 => ?_)
  refine i_putA G1 (pc' := 12) rfl rfl rfl (by omega) rfl (m' := 92) rfl (fun g2 G2 => ?_)
  refine e_next (pc' := 13) rfl rfl ?_
  refine e_sipush (v := nI 192) (pc' := 16) rfl rfl (by decide +kernel) ?_
  refine i_newa G2 (pc' := 18) 100 192 rfl (Or.inl ⟨rfl, rfl⟩) rfl rfl (by omega) rfl (by decide +kernel) (by omega) (n' := 96) rfl (S' := 2183) rfl (fun g3 I3 J3 G3 => ?_)
  refine i_putA G3 (pc' := 21) rfl rfl rfl (by omega) rfl (m' := 93) rfl (fun g4 G4 => ?_)
  refine e_next (pc' := 22) rfl rfl ?_
  refine e_bipush (v := nI 60) (pc' := 24) rfl rfl (by decide +kernel) ?_
  refine i_newa G4 (pc' := 26) 100 60 rfl (Or.inl ⟨rfl, rfl⟩) rfl rfl (by omega) rfl (by decide +kernel) (by omega) (n' := 97) rfl (S' := 2243) rfl (fun g5 I5 J5 G5 => ?_)
  refine i_putA G5 (pc' := 29) rfl rfl rfl (by omega) rfl (m' := 94) rfl (fun g6 G6 => ?_)
  exact qev_ret rfl rfl (k g6 I5 J5 G6)
theorem i_c78_97 (G : gIn L I0 98 95 2247 g I) (k : ∀ g' I' J', gIn L I0 101 98 2507 g' I' → Q none g' I' J') : qC d 78 [.ref 97] g I J Q := by
  show qev d 78 (0, [.ref 97], [], g, I, J) Q
  refine e_next (pc' := 1) rfl rfl ?_
  refine e_next (pc' := 4) rfl rfl ?_
  refine e_next (pc' := 5) rfl rfl ?_
  refine e_bipush (v := nI 8) (pc' := 7) rfl rfl (by decide +kernel) ?_
  refine i_newa G (pc' := 9) 100 8 rfl (Or.inl ⟨rfl, rfl⟩) rfl rfl (by omega) rfl (by decide +kernel) (by omega) (n' := 99) rfl (S' := 2255) rfl (fun g1 I1 J1 G1 => ?_)
  refine i_putA G1 (pc' := 12) rfl rfl rfl (by omega) rfl (m' := 96) rfl (fun g2 G2 => ?_)
  refine e_next (pc' := 13) rfl rfl ?_
  refine e_sipush (v := nI 192) (pc' := 16) rfl rfl (by decide +kernel) ?_
  refine i_newa G2 (pc' := 18) 100 192 rfl (Or.inl ⟨rfl, rfl⟩) rfl rfl (by omega) rfl (by decide +kernel) (by omega) (n' := 100) rfl (S' := 2447) rfl (fun g3 I3 J3 G3 => ?_)
  refine i_putA G3 (pc' := 21) rfl rfl rfl (by omega) rfl (m' := 97) rfl (fun g4 G4 => ?_)
  refine e_next (pc' := 22) rfl rfl ?_
  refine e_bipush (v := nI 60) (pc' := 24) rfl rfl (by decide +kernel) ?_
  refine i_newa G4 (pc' := 26) 100 60 rfl (Or.inl ⟨rfl, rfl⟩) rfl rfl (by omega) rfl (by decide +kernel) (by omega) (n' := 101) rfl (S' := 2507) rfl (fun g5 I5 J5 G5 => ?_)
  refine i_putA G5 (pc' := 29) rfl rfl rfl (by omega) rfl (m' := 98) rfl (fun g6 G6 => ?_)
  exact qev_ret rfl rfl (k g6 I5 J5 G6)
theorem i_c37_101 (G : gIn L I0 102 99 2510 g I) (k : ∀ g' I' J', gIn L I0 103 100 2550 g' I' → Q none g' I' J') : qC d 37 [.ref 101] g I J Q := by
  show qev d 37 (0, [.ref 101], [], g, I, J) Q
  refine e_next (pc' := 1) rfl rfl ?_
  refine e_next (pc' := 4) rfl rfl ?_
  refine e_next (pc' := 5) rfl rfl ?_
  refine e_bipush (v := nI 40) (pc' := 7) rfl rfl (by decide +kernel) ?_
  refine i_anew G (pc' := 10) 40 rfl rfl rfl (by omega) rfl (by decide +kernel) (by omega) (n' := 103) rfl (S' := 2550) rfl (fun g1 I1 J1 G1 => ?_)
  refine i_putA G1 (pc' := 13) rfl rfl rfl (by omega) rfl (m' := 100) rfl (fun g2 G2 => ?_)
  exact qev_ret rfl rfl (k g2 I1 J1 G2)
theorem i_c98_4 (G : gIn L I0 5 0 18 g I) (k : ∀ g' I' J', gIn L I0 105 103 2560 g' I' → Q none g' I' J') : qC (d + 2) 98 [.ref 4] g I J Q := by
  show qev (d + 2) 98 (0, [.ref 4], [], g, I, J) Q
  refine e_next (pc' := 1) rfl rfl ?_
  refine e_next (pc' := 4) rfl rfl ?_
  refine e_next (pc' := 5) rfl rfl ?_
  refine i_new G (pc' := 8) rfl rfl rfl rfl (by decide +kernel) (by omega) (n' := 6) rfl (S' := 20) rfl (fun g1 I1 J1 G1 => ?_)
  refine e_next (pc' := 9) rfl rfl ?_
  refine e_cgV (pc' := 12) rfl (e_sV (as := []) (fun _ => rfl) (Or.inr rfl) rfl (G1.ob rfl (by omega)) rfl rfl (Nat.le_of_ble_eq_true rfl) (Nat.le_of_ble_eq_true rfl) rfl) ?_
  refine i_c96_5 G1 (fun g2 I2 J2 G2 => ⟨rfl, ?_⟩)
  refine i_putA G2 (pc' := 15) rfl rfl rfl (by omega) rfl (m' := 2) rfl (fun g3 G3 => ?_)
  refine e_next (pc' := 16) rfl rfl ?_
  refine i_new G3 (pc' := 19) rfl rfl rfl rfl (by decide +kernel) (by omega) (n' := 8) rfl (S' := 345) rfl (fun g4 I4 J4 G4 => ?_)
  refine e_next (pc' := 20) rfl rfl ?_
  refine e_sipush (v := nI 320) (pc' := 23) rfl rfl (by decide +kernel) ?_
  refine e_cgV (pc' := 26) rfl (e_sV (as := [_]) (fun _ => rfl) (Or.inr rfl) rfl (G4.ob rfl (by omega)) rfl rfl (Nat.le_of_ble_eq_true rfl) (Nat.le_of_ble_eq_true rfl) rfl) ?_
  refine i_c29_7 G4 (fun g5 I5 J5 G5 => ⟨rfl, ?_⟩)
  refine i_putA G5 (pc' := 29) rfl rfl rfl (by omega) rfl (m' := 6) rfl (fun g6 G6 => ?_)
  refine e_next (pc' := 30) rfl rfl ?_
  refine i_new G6 (pc' := 33) rfl rfl rfl rfl (by decide +kernel) (by omega) (n' := 12) rfl (S' := 689) rfl (fun g7 I7 J7 G7 => ?_)
  refine e_next (pc' := 34) rfl rfl ?_
  refine e_next (pc' := 35) rfl rfl ?_
  refine i_getR G7 (pc' := 38) rfl rfl rfl (by omega) (v := 5) (by decide +kernel) ?_
  refine e_next (pc' := 39) rfl rfl ?_
  refine i_getR G7 (pc' := 42) rfl rfl rfl (by omega) (v := 7) (by decide +kernel) ?_
  refine e_cgV (pc' := 45) rfl (e_sV (as := [_, _]) (fun _ => rfl) (Or.inr rfl) rfl (G7.ob rfl (by omega)) rfl rfl (Nat.le_of_ble_eq_true rfl) (Nat.le_of_ble_eq_true rfl) rfl) ?_
  refine i_c47_11 G7 (fun g8 I8 J8 G8 => ⟨rfl, ?_⟩)
  refine i_putA G8 (pc' := 48) rfl rfl rfl (by omega) rfl (m' := 9) rfl (fun g9 G9 => ?_)
  refine e_next (pc' := 49) rfl rfl ?_
  refine i_new G9 (pc' := 52) rfl rfl rfl rfl (by decide +kernel) (by omega) (n' := 13) rfl (S' := 698) rfl (fun g10 I10 J10 G10 => ?_)
  refine e_next (pc' := 53) rfl rfl ?_
  refine e_cgV (pc' := 56) rfl (e_sV (as := []) (fun _ => rfl) (Or.inr rfl) rfl (G10.ob rfl (by omega)) rfl rfl (Nat.le_of_ble_eq_true rfl) (Nat.le_of_ble_eq_true rfl) rfl) ?_
  refine i_c0_12 G10 (fun g11 I11 J11 G11 => ⟨rfl, ?_⟩)
  refine i_putA G11 (pc' := 59) rfl rfl rfl (by omega) rfl (m' := 30) rfl (fun g12 G12 => ?_)
  refine e_next (pc' := 60) rfl rfl ?_
  refine i_new G12 (pc' := 63) rfl rfl rfl rfl (by decide +kernel) (by omega) (n' := 34) rfl (S' := 963) rfl (fun g13 I13 J13 G13 => ?_)
  refine e_next (pc' := 64) rfl rfl ?_
  refine e_next (pc' := 65) rfl rfl ?_
  refine i_getR G13 (pc' := 68) rfl rfl rfl (by omega) (v := 12) (by decide +kernel) ?_
  refine e_cgV (pc' := 71) rfl (e_sV (as := [_]) (fun _ => rfl) (Or.inr rfl) rfl (G13.ob rfl (by omega)) rfl rfl (Nat.le_of_ble_eq_true rfl) (Nat.le_of_ble_eq_true rfl) rfl) ?_
  refine i_c41_33 G13 (fun g14 I14 J14 G14 => ⟨rfl, ?_⟩)
  refine i_putA G14 (pc' := 74) rfl rfl rfl (by omega) rfl (m' := 81) rfl (fun g15 G15 => ?_)
  refine e_next (pc' := 75) rfl rfl ?_
  refine i_new G15 (pc' := 78) rfl rfl rfl rfl (by decide +kernel) (by omega) (n' := 84) rfl (S' := 1614) rfl (fun g16 I16 J16 G16 => ?_)
  refine e_next (pc' := 79) rfl rfl ?_
  refine e_cgV (pc' := 82) rfl (e_sV (as := []) (fun _ => rfl) (Or.inr rfl) rfl (G16.ob rfl (by omega)) rfl rfl (Nat.le_of_ble_eq_true rfl) (Nat.le_of_ble_eq_true rfl) rfl) ?_
  refine i_c68_83 G16 (fun g17 I17 J17 G17 => ⟨rfl, ?_⟩)
  refine i_putA G17 (pc' := 85) rfl rfl rfl (by omega) rfl (m' := 85) rfl (fun g18 G18 => ?_)
  refine e_next (pc' := 86) rfl rfl ?_
  refine i_new G18 (pc' := 89) rfl rfl rfl rfl (by decide +kernel) (by omega) (n' := 88) rfl (S' := 1691) rfl (fun g19 I19 J19 G19 => ?_)
  refine e_next (pc' := 90) rfl rfl ?_
  refine e_cgV (pc' := 93) rfl (e_sV (as := []) (fun _ => rfl) (Or.inr rfl) rfl (G19.ob rfl (by omega)) rfl rfl (Nat.le_of_ble_eq_true rfl) (Nat.le_of_ble_eq_true rfl) rfl) ?_
  refine i_ser G19 rfl (by omega) rfl (by decide +kernel) rfl (n' := 89) rfl (m' := 86) rfl (S' := 1715) rfl (fun g20 I20 J20 G20 => ⟨rfl, ?_⟩)
  refine i_putA G20 (pc' := 96) rfl rfl rfl (by omega) rfl (m' := 87) rfl (fun g21 G21 => ?_)
  refine e_next (pc' := 97) rfl rfl ?_
  refine i_new G21 (pc' := 100) rfl rfl rfl rfl (by decide +kernel) (by omega) (n' := 90) rfl (S' := 1719) rfl (fun g22 I22 J22 G22 => ?_)
  refine e_next (pc' := 101) rfl rfl ?_
  refine e_cgV (pc' := 104) rfl (e_sV (as := []) (fun _ => rfl) (Or.inr rfl) rfl (G22.ob rfl (by omega)) rfl rfl (Nat.le_of_ble_eq_true rfl) (Nat.le_of_ble_eq_true rfl) rfl) ?_
  refine i_c78_89 G22 (fun g23 I23 J23 G23 => ⟨rfl, ?_⟩)
  refine i_putA G23 (pc' := 107) rfl rfl rfl (by omega) rfl (m' := 91) rfl (fun g24 G24 => ?_)
  refine e_next (pc' := 108) rfl rfl ?_
  refine i_new G24 (pc' := 111) rfl rfl rfl rfl (by decide +kernel) (by omega) (n' := 94) rfl (S' := 1983) rfl (fun g25 I25 J25 G25 => ?_)
  refine e_next (pc' := 112) rfl rfl ?_
  refine e_cgV (pc' := 115) rfl (e_sV (as := []) (fun _ => rfl) (Or.inr rfl) rfl (G25.ob rfl (by omega)) rfl rfl (Nat.le_of_ble_eq_true rfl) (Nat.le_of_ble_eq_true rfl) rfl) ?_
  refine i_c78_93 G25 (fun g26 I26 J26 G26 => ⟨rfl, ?_⟩)
  refine i_putA G26 (pc' := 118) rfl rfl rfl (by omega) rfl (m' := 95) rfl (fun g27 G27 => ?_)
  refine e_next (pc' := 119) rfl rfl ?_
  refine i_new G27 (pc' := 122) rfl rfl rfl rfl (by decide +kernel) (by omega) (n' := 98) rfl (S' := 2247) rfl (fun g28 I28 J28 G28 => ?_)
  refine e_next (pc' := 123) rfl rfl ?_
  refine e_cgV (pc' := 126) rfl (e_sV (as := []) (fun _ => rfl) (Or.inr rfl) rfl (G28.ob rfl (by omega)) rfl rfl (Nat.le_of_ble_eq_true rfl) (Nat.le_of_ble_eq_true rfl) rfl) ?_
  refine i_c78_97 G28 (fun g29 I29 J29 G29 => ⟨rfl, ?_⟩)
  refine i_putA G29 (pc' := 129) rfl rfl rfl (by omega) rfl (m' := 99) rfl (fun g30 G30 => ?_)
  refine e_next (pc' := 130) rfl rfl ?_
  refine i_new G30 (pc' := 133) rfl rfl rfl rfl (by decide +kernel) (by omega) (n' := 102) rfl (S' := 2510) rfl (fun g31 I31 J31 G31 => ?_)
  refine e_next (pc' := 134) rfl rfl ?_
  refine e_cgV (pc' := 137) rfl (e_sV (as := []) (fun _ => rfl) (Or.inr rfl) rfl (G31.ob rfl (by omega)) rfl rfl (Nat.le_of_ble_eq_true rfl) (Nat.le_of_ble_eq_true rfl) rfl) ?_
  refine i_c37_101 G31 (fun g32 I32 J32 G32 => ⟨rfl, ?_⟩)
  refine i_putA G32 (pc' := 140) rfl rfl rfl (by omega) rfl (m' := 101) rfl (fun g33 G33 => ?_)
  refine e_next (pc' := 141) rfl rfl ?_
  refine e_iconst (v := nI 4) (pc' := 142) rfl rfl (by decide +kernel) ?_
  refine i_anew G33 (pc' := 145) 4 rfl rfl rfl (by omega) rfl (by decide +kernel) (by omega) (n' := 104) rfl (S' := 2554) rfl (fun g34 I34 J34 G34 => ?_)
  refine i_putA G34 (pc' := 148) rfl rfl rfl (by omega) rfl (m' := 102) rfl (fun g35 G35 => ?_)
  refine e_next (pc' := 149) rfl rfl ?_
  refine e_bipush (v := nI 6) (pc' := 151) rfl rfl (by decide +kernel) ?_
  refine i_newa G35 (pc' := 153) 100 6 rfl (Or.inl ⟨rfl, rfl⟩) rfl rfl (by omega) rfl (by decide +kernel) (by omega) (n' := 105) rfl (S' := 2560) rfl (fun g36 I36 J36 G36 => ?_)
  refine i_putA G36 (pc' := 156) rfl rfl rfl (by omega) rfl (m' := 103) rfl (fun g37 G37 => ?_)
  exact qev_ret rfl rfl (k g37 I36 J36 G37)
theorem i_c145_105 (G : gIn L I0 106 103 2591 g I) (k : ∀ g' I' J', gIn L I0 119 116 32691 g' I' → Q none g' I' J') : qC d 145 [.ref 105] g I J Q := by
  show qev d 145 (0, [.ref 105], [], g, I, J) Q
  refine e_next (pc' := 1) rfl rfl ?_
  refine e_next (pc' := 4) rfl rfl ?_
  refine e_next (pc' := 5) rfl rfl ?_
  refine e_sipush (v := nI 320) (pc' := 8) rfl rfl (by decide +kernel) ?_
  refine i_newa G (pc' := 10) 101 320 rfl (Or.inr (Or.inl ⟨rfl, rfl⟩)) rfl rfl (by omega) rfl (by decide +kernel) (by omega) (n' := 107) rfl (S' := 2911) rfl (fun g1 I1 J1 G1 => ?_)
  refine i_putA G1 (pc' := 13) rfl rfl rfl (by omega) rfl (m' := 104) rfl (fun g2 G2 => ?_)
  refine e_next (pc' := 14) rfl rfl ?_
  refine e_bipush (v := nI 41) (pc' := 16) rfl rfl (by decide +kernel) ?_
  refine i_newa G2 (pc' := 18) 100 41 rfl (Or.inl ⟨rfl, rfl⟩) rfl rfl (by omega) rfl (by decide +kernel) (by omega) (n' := 108) rfl (S' := 2952) rfl (fun g3 I3 J3 G3 => ?_)
  refine i_putA G3 (pc' := 21) rfl rfl rfl (by omega) rfl (m' := 105) rfl (fun g4 G4 => ?_)
  refine e_next (pc' := 22) rfl rfl ?_
  refine e_bipush (v := nI 41) (pc' := 24) rfl rfl (by decide +kernel) ?_
  refine i_newa G4 (pc' := 26) 100 41 rfl (Or.inl ⟨rfl, rfl⟩) rfl rfl (by omega) rfl (by decide +kernel) (by omega) (n' := 109) rfl (S' := 2993) rfl (fun g5 I5 J5 G5 => ?_)
  refine i_putA G5 (pc' := 29) rfl rfl rfl (by omega) rfl (m' := 106) rfl (fun g6 G6 => ?_)
  refine e_next (pc' := 30) rfl rfl ?_
  refine e_sipush (v := nI 11480) (pc' := 33) rfl rfl (by decide +kernel) ?_
  refine i_newa G6 (pc' := 35) 100 11480 rfl (Or.inl ⟨rfl, rfl⟩) rfl rfl (by omega) rfl (by decide +kernel) (by omega) (n' := 110) rfl (S' := 14473) rfl (fun g7 I7 J7 G7 => ?_)
  refine i_putA G7 (pc' := 38) rfl rfl rfl (by omega) rfl (m' := 107) rfl (fun g8 G8 => ?_)
  refine e_next (pc' := 39) rfl rfl ?_
  refine e_iconst (v := nI 5) (pc' := 40) rfl rfl (by decide +kernel) ?_
  refine i_newa G8 (pc' := 42) 100 5 rfl (Or.inl ⟨rfl, rfl⟩) rfl rfl (by omega) rfl (by decide +kernel) (by omega) (n' := 111) rfl (S' := 14478) rfl (fun g9 I9 J9 G9 => ?_)
  refine i_putA G9 (pc' := 45) rfl rfl rfl (by omega) rfl (m' := 108) rfl (fun g10 G10 => ?_)
  refine e_next (pc' := 46) rfl rfl ?_
  refine e_sipush (v := nI 381) (pc' := 49) rfl rfl (by decide +kernel) ?_
  refine i_newa G10 (pc' := 51) 100 381 rfl (Or.inl ⟨rfl, rfl⟩) rfl rfl (by omega) rfl (by decide +kernel) (by omega) (n' := 112) rfl (S' := 14859) rfl (fun g11 I11 J11 G11 => ?_)
  refine i_putA G11 (pc' := 54) rfl rfl rfl (by omega) rfl (m' := 109) rfl (fun g12 G12 => ?_)
  refine e_next (pc' := 55) rfl rfl ?_
  refine e_sipush (v := nI 381) (pc' := 58) rfl rfl (by decide +kernel) ?_
  refine i_newa G12 (pc' := 60) 100 381 rfl (Or.inl ⟨rfl, rfl⟩) rfl rfl (by omega) rfl (by decide +kernel) (by omega) (n' := 113) rfl (S' := 15240) rfl (fun g13 I13 J13 G13 => ?_)
  refine i_putA G13 (pc' := 63) rfl rfl rfl (by omega) rfl (m' := 110) rfl (fun g14 G14 => ?_)
  refine e_next (pc' := 64) rfl rfl ?_
  refine e_sipush (v := nI 381) (pc' := 67) rfl rfl (by decide +kernel) ?_
  refine i_newa G14 (pc' := 69) 100 381 rfl (Or.inl ⟨rfl, rfl⟩) rfl rfl (by omega) rfl (by decide +kernel) (by omega) (n' := 114) rfl (S' := 15621) rfl (fun g15 I15 J15 G15 => ?_)
  refine i_putA G15 (pc' := 72) rfl rfl rfl (by omega) rfl (m' := 111) rfl (fun g16 G16 => ?_)
  refine e_next (pc' := 73) rfl rfl ?_
  refine e_sipush (v := nI 15240) (pc' := 76) rfl rfl (by decide +kernel) ?_
  refine i_newa G16 (pc' := 78) 100 15240 rfl (Or.inl ⟨rfl, rfl⟩) rfl rfl (by omega) rfl (by decide +kernel) (by omega) (n' := 115) rfl (S' := 30861) rfl (fun g17 I17 J17 G17 => ?_)
  refine i_putA G17 (pc' := 81) rfl rfl rfl (by omega) rfl (m' := 112) rfl (fun g18 G18 => ?_)
  refine e_next (pc' := 82) rfl rfl ?_
  refine e_sipush (v := nI 1200) (pc' := 85) rfl rfl (by decide +kernel) ?_
  refine i_newa G18 (pc' := 87) 100 1200 rfl (Or.inl ⟨rfl, rfl⟩) rfl rfl (by omega) rfl (by decide +kernel) (by omega) (n' := 116) rfl (S' := 32061) rfl (fun g19 I19 J19 G19 => ?_)
  refine i_putA G19 (pc' := 90) rfl rfl rfl (by omega) rfl (m' := 113) rfl (fun g20 G20 => ?_)
  refine e_next (pc' := 91) rfl rfl ?_
  refine e_bipush (v := nI 6) (pc' := 93) rfl rfl (by decide +kernel) ?_
  refine i_newa G20 (pc' := 95) 100 6 rfl (Or.inl ⟨rfl, rfl⟩) rfl rfl (by omega) rfl (by decide +kernel) (by omega) (n' := 117) rfl (S' := 32067) rfl (fun g21 I21 J21 G21 => ?_)
  refine i_putA G21 (pc' := 98) rfl rfl rfl (by omega) rfl (m' := 114) rfl (fun g22 G22 => ?_)
  refine e_next (pc' := 99) rfl rfl ?_
  refine e_sipush (v := nI 600) (pc' := 102) rfl rfl (by decide +kernel) ?_
  refine i_newa G22 (pc' := 104) 100 600 rfl (Or.inl ⟨rfl, rfl⟩) rfl rfl (by omega) rfl (by decide +kernel) (by omega) (n' := 118) rfl (S' := 32667) rfl (fun g23 I23 J23 G23 => ?_)
  refine i_putA G23 (pc' := 107) rfl rfl rfl (by omega) rfl (m' := 115) rfl (fun g24 G24 => ?_)
  refine e_next (pc' := 108) rfl rfl ?_
  refine e_bipush (v := nI 24) (pc' := 110) rfl rfl (by decide +kernel) ?_
  refine i_newa G24 (pc' := 112) 100 24 rfl (Or.inl ⟨rfl, rfl⟩) rfl rfl (by omega) rfl (by decide +kernel) (by omega) (n' := 119) rfl (S' := 32691) rfl (fun g25 I25 J25 G25 => ?_)
  refine i_putA G25 (pc' := 115) rfl rfl rfl (by omega) rfl (m' := 116) rfl (fun g26 G26 => ?_)
  exact qev_ret rfl rfl (k g26 I25 J25 G26)
theorem lw_start (G : gIn L I0 4 0 0 g I) (k : ∀ g' I' J', gIn L I0 120 116 32692 g' I' → qev (d + 3) 270 (23, [.ref 0, .ref 4, .ref 105, .ref 119, .int (nI 0), qpad, qpad], [], g', I', J') Q) : qC (d + 3) 270 [.ref 0] g I J Q := by
  show qev (d + 3) 270 (0, [.ref 0, qpad, qpad, qpad, qpad, qpad, qpad], [], g, I, J) Q
  refine i_new G (pc' := 3) rfl rfl rfl rfl (by decide +kernel) (by omega) (n' := 5) rfl (S' := 18) rfl (fun g1 I1 J1 G1 => ?_)
  refine e_next (pc' := 4) rfl rfl ?_
  refine e_cgV (pc' := 7) rfl (e_sV (as := []) (fun _ => rfl) (Or.inr rfl) rfl (G1.ob rfl (by omega)) rfl rfl (Nat.le_of_ble_eq_true rfl) (Nat.le_of_ble_eq_true rfl) rfl) ?_
  refine i_c98_4 G1 (fun g2 I2 J2 G2 => ⟨rfl, ?_⟩)
  refine e_next (pc' := 8) rfl rfl ?_
  refine i_new G2 (pc' := 11) rfl rfl rfl rfl (by decide +kernel) (by omega) (n' := 106) rfl (S' := 2591) rfl (fun g3 I3 J3 G3 => ?_)
  refine e_next (pc' := 12) rfl rfl ?_
  refine e_cgV (pc' := 15) rfl (e_sV (as := []) (fun _ => rfl) (Or.inr rfl) rfl (G3.ob rfl (by omega)) rfl rfl (Nat.le_of_ble_eq_true rfl) (Nat.le_of_ble_eq_true rfl) rfl) ?_
  refine i_c145_105 G3 (fun g4 I4 J4 G4 => ⟨rfl, ?_⟩)
  refine e_next (pc' := 16) rfl rfl ?_
  refine e_iconst (v := nI 1) (pc' := 17) rfl rfl (by decide +kernel) ?_
  refine i_newa G4 (pc' := 19) 102 1 rfl (Or.inr (Or.inr ⟨rfl, rfl⟩)) rfl rfl (by omega) rfl (by decide +kernel) (by omega) (n' := 120) rfl (S' := 32692) rfl (fun g5 I5 J5 G5 => ?_)
  refine e_next (pc' := 20) rfl rfl ?_
  refine e_iconst (v := nI 0) (pc' := 21) rfl rfl (by decide +kernel) ?_
  refine e_next (pc' := 23) rfl rfl ?_
  exact k g5 I5 J5 G5
end INITS
