/-! new states of the class, and those kept to be undone -/
theorem zmk_K {k n a : Nat} {g : qG} (h : a ≠ g.2.2.1) : (qmk k n g).1 a = g.1 a := if_neg h
theorem zmk_s {k n : Nat} {g : qG} : (qmk k n g).1 g.2.2.1 = some (k, n) := if_pos rfl
theorem zmk_A {k n a : Nat} {g : qG} (h : a ≠ g.2.2.1) : (qmk k n g).2.1 a = g.2.1 a := if_neg h
/-- what a growing heap keeps -/
def gGrow (g g' : qG) : Prop := g.2.2.1 ≤ g'.2.2.1 ∧ (∀ a, a < g.2.2.1 → g'.1 a = g.1 a)
theorem gGrow.sta {g g' : qG} {a : Nat} (h : gGrow g g') (ha : qSta g a) (hb : a + 3 < g.2.2.1) (hr : ∀ k, g'.2.1 a k = g.2.1 a k) : qSta g' a :=
  ⟨by rw [h.2 a (by omega)]; exact ha.1, ⟨by rw [hr]; exact ha.a0, by rw [h.2 _ (by omega)]; exact ha.k0⟩, ⟨by rw [hr]; exact ha.a1, by rw [h.2 _ (by omega)]; exact ha.k1⟩, by rw [hr]; exact ha.a2, by rw [h.2 _ (by omega)]; exact ha.k2⟩
theorem gGrow.cod {g g' : qG} {a n : Nat} (h : gGrow g g') (ha : qCod g a n) (hb : a + 3 < g.2.2.1) (hr : ∀ k, g'.2.1 a k = g.2.1 a k) : qCod g' a n :=
  ⟨by rw [h.2 a (by omega)]; exact ha.1, ⟨by rw [hr]; exact ha.a0, by rw [h.2 _ (by omega)]; exact ha.k0⟩, ⟨by rw [hr]; exact ha.a1, by rw [h.2 _ (by omega)]; exact ha.k1⟩, ⟨by rw [hr]; exact ha.a2, by rw [h.2 _ (by omega)]; exact ha.k2⟩, ha.n⟩
theorem qK0_lt : ∀ a, 120 ≤ a → qK0 a = none := by
  intro a ha
  unfold qK0
  by_cases h : a / 16 < 8
  · have : a / 16 = 7 := by omega
    rw [this]
    have hm : 8 ≤ a % 16 ∧ a % 16 < 16 := by omega
    generalize a % 16 = b at hm
    have hd : b = 8 ∨ b = 9 ∨ b = 10 ∨ b = 11 ∨ b = 12 ∨ b = 13 ∨ b = 14 ∨ b = 15 := by omega
    rcases hd with rfl | rfl | rfl | rfl | rfl | rfl | rfl | rfl <;> rfl
  · have e : a / 16 = (a / 16 - 8) + 8 := by omega
    rw [e]
    rfl
theorem qA0_lt : ∀ a k, 120 ≤ a → qA0 a k = none := by
  intro a k ha
  unfold qA0
  by_cases h : a / 16 < 8
  · have : a / 16 = 7 := by omega
    rw [this]
    have hm : 8 ≤ a % 16 ∧ a % 16 < 16 := by omega
    generalize a % 16 = b at hm
    have hd : b = 8 ∨ b = 9 ∨ b = 10 ∨ b = 11 ∨ b = 12 ∨ b = 13 ∨ b = 14 ∨ b = 15 := by omega
    rcases hd with rfl | rfl | rfl | rfl | rfl | rfl | rfl | rfl <;> rfl
  · have e : a / 16 = (a / 16 - 8) + 8 := by omega
    rw [e]
    rfl
theorem qA0_102 (k : Nat) : qA0 102 k = none := rfl
theorem qA0_103 (k : Nat) : qA0 103 k = none := rfl
theorem qSh.grow {g g' : qG} (h : qSh g) (hg : gGrow g g') (h120 : 120 ≤ g.2.2.1) (hr : ∀ a k, a < 120 → a ≠ 102 → a ≠ 103 → g'.2.1 a k = g.2.1 a k) : qSh g' := by
  refine ⟨fun a t ha => ?_, fun a k b ha => ?_⟩
  · have hlt : a < 120 := Nat.lt_of_not_le (fun h2 => by rw [qK0_lt a h2] at ha; cases ha)
    rw [hg.2 a (by omega)]; exact h.k ha
  · have hlt : a < 120 := Nat.lt_of_not_le (fun h2 => by rw [qA0_lt a k h2] at ha; cases ha)
    rw [hr a k hlt (fun e => by rw [e, qA0_102] at ha; cases ha) (fun e => by rw [e, qA0_103] at ha; cases ha)]; exact h.a ha
section KHIST
variable {d : Nat} {g : qG} {I : qI} {J : qJ} {Q : qQ} {p M n m x a b nx o : Nat} {s : ST} {hs : List ST}
/-- the constructor of a state, on the newest cell -/
theorem k_newSt (ho : g.1 o = some (7, 4)) (hN : g.2.2.1 = o + 1) (k : ∀ g' I' J', gGrow g g' → (∀ a k, a < o → g'.2.1 a k = g.2.1 a k) → qSta g' o → g'.2.2.1 = o + 4 → g'.2.2.2 = g.2.2.2 + 260 → (∀ a, a ≤ o → I' a = I a) → (∀ a, a ≤ o → J' a = J a) → Q none g' I' J') : qC d 78 [.ref o] g I J Q := by
  show qev d 78 (0, [.ref o], [], g, I, J) Q
  have hob : qob g o 7 = true := qob_of ho
  refine e_next (pc' := 1) rfl rfl ?_
  refine e_next (pc' := 4) rfl rfl ?_
  refine e_next (pc' := 5) rfl rfl ?_
  refine e_bipush (pc' := 7) rfl rfl kb_8 ?_
  refine e_newa (pc' := 9) 100 8 rfl (Or.inl ⟨rfl, rfl⟩) rfl rfl (by omega) ?_
  generalize hg1 : qmk 100 8 g = g1
  generalize hI1 : qmI g I = I1
  generalize hJ1 : qmJ g J = J1
  have n1 : g1.2.2.1 = o + 2 := by rw [← hg1]; show g.2.2.1 + 1 = _; omega
  have s1 : g1.2.2.2 = g.2.2.2 + 8 := by rw [← hg1]; rfl
  have K1 : ∀ a, a ≠ o + 1 → g1.1 a = g.1 a := fun a ha => by rw [← hg1]; exact zmk_K (by omega)
  have K1s : g1.1 (o + 1) = some (100, 8) := by rw [← hg1, ← hN]; exact zmk_s
  have A1 : ∀ a, a ≠ o + 1 → g1.2.1 a = g.2.1 a := fun a ha => by rw [← hg1]; exact zmk_A (by omega)
  have i1 : ∀ a, a ≤ o → I1 a = I a := fun a ha => by rw [← hI1]; exact zv_a (by omega)
  have j1 : ∀ a, a ≤ o → J1 a = J a := fun a ha => by rw [← hJ1]; exact zv_a (by omega)
  have hob1 : qob g1 o 7 = true := qob_of (by rw [K1 o (by omega)]; exact ho)
  refine e_putA (v := some g.2.2.1) (pc' := 12) rfl rfl hob1 ?_
  refine e_next (pc' := 13) rfl rfl ?_
  refine e_sipush (pc' := 16) rfl rfl ks_192 ?_
  refine e_newa (pc' := 18) 100 192 rfl (Or.inl ⟨rfl, rfl⟩) rfl rfl (by omega) ?_
  generalize hg2 : qmk 100 192 (g1.1, qw g1.2.1 o 0 (some g.2.2.1), g1.2.2) = g2
  generalize hI2 : qmI (g1.1, qw g1.2.1 o 0 (some g.2.2.1), g1.2.2) I1 = I2
  generalize hJ2 : qmJ (g1.1, qw g1.2.1 o 0 (some g.2.2.1), g1.2.2) J1 = J2
  have n2 : g2.2.2.1 = o + 3 := by rw [← hg2]; show g1.2.2.1 + 1 = _; omega
  have s2 : g2.2.2.2 = g.2.2.2 + 200 := by rw [← hg2]; show g1.2.2.2 + 192 = _; omega
  have K2 : ∀ a, a ≠ o + 2 → g2.1 a = g1.1 a := fun a ha => by rw [← hg2]; exact if_neg (by show a ≠ g1.2.2.1; omega)
  have K2s : g2.1 (o + 2) = some (100, 192) := by rw [← hg2]; exact if_pos (by show o + 2 = g1.2.2.1; omega)
  have A2 : ∀ a, a ≠ o + 2 → g2.2.1 a = qw g1.2.1 o 0 (some g.2.2.1) a := fun a ha => by rw [← hg2]; exact if_neg (by show a ≠ g1.2.2.1; omega)
  have i2 : ∀ a, a ≤ o → I2 a = I a := fun a ha => by rw [← hI2]; exact (zv_a (by show a ≠ g1.2.2.1; omega)).trans (i1 a ha)
  have j2 : ∀ a, a ≤ o → J2 a = J a := fun a ha => by rw [← hJ2]; exact (zv_a (by show a ≠ g1.2.2.1; omega)).trans (j1 a ha)
  have hob2 : qob g2 o 7 = true := qob_of (by rw [K2 o (by omega), K1 o (by omega)]; exact ho)
  refine e_putA (v := some g1.2.2.1) (pc' := 21) rfl rfl hob2 ?_
  refine e_next (pc' := 22) rfl rfl ?_
  refine e_bipush (pc' := 24) rfl rfl kb_60 ?_
  refine e_newa (pc' := 26) 100 60 rfl (Or.inl ⟨rfl, rfl⟩) rfl rfl (by omega) ?_
  generalize hg3 : qmk 100 60 (g2.1, qw g2.2.1 o 1 (some g1.2.2.1), g2.2.2) = g3
  generalize hI3 : qmI (g2.1, qw g2.2.1 o 1 (some g1.2.2.1), g2.2.2) I2 = I3
  generalize hJ3 : qmJ (g2.1, qw g2.2.1 o 1 (some g1.2.2.1), g2.2.2) J2 = J3
  have n3 : g3.2.2.1 = o + 4 := by rw [← hg3]; show g2.2.2.1 + 1 = _; omega
  have s3 : g3.2.2.2 = g.2.2.2 + 260 := by rw [← hg3]; show g2.2.2.2 + 60 = _; omega
  have K3 : ∀ a, a ≠ o + 3 → g3.1 a = g2.1 a := fun a ha => by rw [← hg3]; exact if_neg (by show a ≠ g2.2.2.1; omega)
  have K3s : g3.1 (o + 3) = some (100, 60) := by rw [← hg3]; exact if_pos (by show o + 3 = g2.2.2.1; omega)
  have A3 : ∀ a, a ≠ o + 3 → g3.2.1 a = qw g2.2.1 o 1 (some g1.2.2.1) a := fun a ha => by rw [← hg3]; exact if_neg (by show a ≠ g2.2.2.1; omega)
  have i3 : ∀ a, a ≤ o → I3 a = I a := fun a ha => by rw [← hI3]; exact (zv_a (by show a ≠ g2.2.2.1; omega)).trans (i2 a ha)
  have j3 : ∀ a, a ≤ o → J3 a = J a := fun a ha => by rw [← hJ3]; exact (zv_a (by show a ≠ g2.2.2.1; omega)).trans (j2 a ha)
  have hob3 : qob g3 o 7 = true := qob_of (by rw [K3 o (by omega), K2 o (by omega), K1 o (by omega)]; exact ho)
  refine e_putA (v := some g2.2.2.1) (pc' := 29) rfl rfl hob3 ?_
  refine qev_ret rfl rfl (k _ I3 J3 ⟨?_, fun a ha => ?_⟩ (fun a k ha => ?_) ⟨?_, ⟨?_, ?_⟩, ⟨?_, ?_⟩, ?_, ?_⟩ n3 s3 i3 j3)
  · show g.2.2.1 ≤ g3.2.2.1; omega
  · show g3.1 a = g.1 a
    rw [K3 a (by omega), K2 a (by omega), K1 a (by omega)]
  · show qw g3.2.1 o 2 (some g2.2.2.1) a k = g.2.1 a k
    rw [zu_ab (by omega), A3 a (by omega), zu_ab (by omega), A2 a (by omega), zu_ab (by omega), A1 a (by omega)]
  · show g3.1 o = some (7, 4)
    rw [K3 o (by omega), K2 o (by omega), K1 o (by omega)]; exact ho
  · show qw g3.2.1 o 2 (some g2.2.2.1) o 0 = some (o + 1)
    rw [zu_k (by omega), A3 o (by omega), zu_k (by omega), A2 o (by omega), zu_s, hN]
  · show g3.1 (o + 1) = some (100, 8)
    rw [K3 _ (by omega), K2 _ (by omega)]; exact K1s
  · show qw g3.2.1 o 2 (some g2.2.2.1) o 1 = some (o + 2)
    rw [zu_k (by omega), A3 o (by omega), zu_s, n1]
  · show g3.1 (o + 2) = some (100, 192)
    rw [K3 _ (by omega)]; exact K2s
  · show qw g3.2.1 o 2 (some g2.2.2.1) o 2 = some (o + 3)
    rw [zu_s, n2]
  · exact K3s
/-- the heap's growing part: states kept -/
def gOk (g : qG) : Prop := qSh g ∧ 120 ≤ g.2.2.1 ∧ (∀ i b, i < 40 → g.2.1 102 i = some b → 120 ≤ b ∧ b + 3 < g.2.2.1 ∧ qSta g b) ∧ ∀ i j b, i < 40 → j < 40 → g.2.1 102 i = some b → g.2.1 102 j = some b → i = j
def kH (g : qG) (I : qI) (nx : Nat) (hs : List ST) : Prop := I 101 1 = nI nx ∧ nx < 40 ∧ I 101 2 = nI hs.length ∧ hs.length ≤ 40 ∧ ∀ j s, hs[j]? = some s → ∃ b, g.2.1 102 ((nx + 40 - hs.length + j) % 40) = some b ∧ kSt I b s
theorem sta_apart {g : qG} {a b : Nat} (ha : qSta g a) (hb : qSta g b) (hne : a ≠ b) : a + 3 < b ∨ b + 3 < a := by
  have kb : g.1 b = some (7, 4) := hb.1
  have ka : g.1 a = some (7, 4) := ha.1
  by_cases h1 : a + 3 < b
  · exact Or.inl h1
  · by_cases h2 : b + 3 < a
    · exact Or.inr h2
    · exfalso
      rcases (show b = a + 1 ∨ b = a + 2 ∨ b = a + 3 ∨ a = b + 1 ∨ a = b + 2 ∨ a = b + 3 by omega) with e | e | e | e | e | e
      · rw [e, ha.k0] at kb; cases kb
      · rw [e, ha.k1] at kb; cases kb
      · rw [e, ha.k2] at kb; cases kb
      · rw [e, hb.k0] at ka; cases ka
      · rw [e, hb.k1] at ka; cases ka
      · rw [e, hb.k2] at ka; cases ka
/-- behind a keeping: the cell that is written -/
def keepF (B : Nat) (g g' : qG) (I I' : qI) (J J' : qJ) : Prop := 120 ≤ B ∧ qSta g' B ∧ gGrow g g' ∧ (∀ a k, a < g.2.2.1 → a ≠ 102 → g'.2.1 a k = g.2.1 a k) ∧ g'.2.2.1 ≤ g.2.2.1 + 4 ∧ g'.2.2.2 ≤ g.2.2.2 + 264 ∧ (∀ q, q < g.2.2.1 → q ≠ 101 → (q < B ∨ B + 3 < q) → I' q = I q) ∧ ∀ q, q < g.2.2.1 → J' q = J q
theorem k_keep (hg : gOk g) (hH : kH g I nx hs) (ha : qSta g a) (ha2 : 82 < a ∧ a + 3 < 101) (hS : kSt I a s) (hb : bdST s) (hbs : ∀ q, q ∈ hs → bdST q) (k : ∀ g' I' J' nx' B, gOk g' → kH g' I' nx' (pushH hs s) → keepF B g g' I I' J J' → Q none g' I' J') : qC (d + 1) 39 [.ref 101, .ref a] g I J Q := by
  obtain ⟨h1, hnx, h2, hl, hent⟩ := hH
  obtain ⟨hsh, h120, hst, hdi⟩ := hg
  have k102 : g.1 102 = some (104, 40) := hsh.k rfl
  have hlen := pushH_len (s := s) hl
  -- the second half, on a heap where the cell is there
  have fin : ∀ (g1 : qG) (I1 : qI) (J1 : qJ) (B : Nat), gOk g1 → gGrow g g1 → (∀ i, i < 40 → i ≠ nx → g1.2.1 102 i = g.2.1 102 i) → (∀ a k, a < g.2.2.1 → a ≠ 102 → g1.2.1 a k = g.2.1 a k) → g1.2.2.1 ≤ g.2.2.1 + 4 → g1.2.2.2 ≤ g.2.2.2 + 264 → g1.2.1 102 nx = some B → (∀ q, q < g.2.2.1 → I1 q = I q) → (∀ q, q < g.2.2.1 → J1 q = J q) → qev (d + 1) 39 (28, [.ref 101, .ref a], [], g1, I1, J1) Q := by
    intro g1 I1 J1 B hg1 hgr hoth hre hc1 hc2 hB hI1 hJ1
    obtain ⟨hsh1, h1201, hst1, hdi1⟩ := hg1
    obtain ⟨hB1, hB2, hB3⟩ := hst1 nx B hnx hB
    have e1 : I1 101 1 = nI nx := by rw [hI1 101 (by omega)]; exact h1
    have ha1 : qSta g1 a := hgr.sta ha (by omega) (fun k => hre a k (by omega) (by omega))
    have hS1 : kSt I1 a s := hS.keep (fun b h3 h4 => hI1 b (by omega))
    refine e_next (pc' := 29) rfl rfl ?_
    refine e_getR (w := 102) (pc' := 32) rfl rfl (hsh1.o rfl) (hsh1.a rfl) ?_
    refine e_next (pc' := 33) rfl rfl ?_
    refine e_getI (pc' := 36) rfl (Or.inl rfl) rfl (hsh1.o rfl) ?_
    refine e_aaldR nx (pc' := 37) rfl rfl (hsh1.k rfl) rfl e1 hnx (by omega) hB ?_
    refine e_next (pc' := 38) rfl rfl ?_
    refine e_ciV (pc' := 41) rfl (e_sV (as := [_]) (fun _ => rfl) (Or.inl rfl) rfl hB3.o rfl rfl (Nat.le_of_ble_eq_true rfl) (Nat.le_of_ble_eq_true rfl) rfl) rfl rfl ?_
    refine k_copySt hB3 ha1 (by omega) hS1 hb.1 hb.2 (fun I2 c1 c2 => ⟨rfl, ?_⟩)
    have e101 : I2 101 = I1 101 := c2 101 (by omega)
    refine e_next (pc' := 42) rfl rfl ?_
    refine e_next (pc' := 43) rfl rfl ?_
    refine e_getI (pc' := 46) rfl (Or.inl rfl) rfl (hsh1.o rfl) ?_
    refine e_iconst (pc' := 47) rfl rfl kc_1 ?_
    refine e_next (pc' := 48) rfl rfl ?_
    refine e_bipush (pc' := 50) rfl rfl kb_40 ?_
    refine e_irem (pc' := 51) rfl rfl (by decide +kernel) ?_
    refine e_putI (pc' := 54) rfl rfl (hsh1.o rfl) ?_
    refine e_next (pc' := 55) rfl rfl ?_
    refine e_next (pc' := 56) rfl rfl ?_
    refine e_getI (pc' := 59) rfl (Or.inl rfl) rfl (hsh1.o rfl) ?_
    refine e_iconst (pc' := 60) rfl rfl kc_1 ?_
    refine e_next (pc' := 61) rfl rfl ?_
    refine e_bipush (pc' := 63) rfl rfl kb_40 ?_
    refine e_min (pc' := 66) rfl rfl (Nat.le_of_ble_eq_true rfl) ?_
    refine e_putI (pc' := 69) rfl rfl (hsh1.o rfl) ?_
    have ev1 : qrem (I2 101 1 + nI 1) (nI 40) = nI ((nx + 1) % 40) := by rw [e101, e1, nI_add, rem40 (by omega)]
    have ev2 : ∀ v, (qw I2 101 1 v) 101 2 = nI hs.length := fun v => by rw [zu_k (by omega), e101, hI1 101 (by omega)]; exact h2
    have ev3 : qmin (nI hs.length + nI 1) (nI 40) = nI (pushH hs s).length := by rw [nI_add, qmin_nI (by omega) (by omega), hlen]
    refine qev_ret rfl rfl ?_
    show Q none g1 (qw (qw I2 101 1 (qrem (I2 101 1 + nI 1) (nI 40))) 101 2 (qmin ((qw I2 101 1 (qrem (I2 101 1 + nI 1) (nI 40))) 101 2 + nI 1) (nI 40))) J1
    rw [ev1, ev2, ev3]
    refine k g1 _ J1 ((nx + 1) % 40) B ⟨hsh1, h1201, hst1, hdi1⟩ ⟨by rw [zu_k (by omega), zu_s], by omega, zu_s, by omega, fun j q hj => ?_⟩ ⟨hB1, hB3, hgr, hre, hc1, hc2, fun q q1 q2 q3 => by rw [zu_a q2, zu_a q2, c2 q q3, hI1 q q1], hJ1⟩
    rcases pushH_at hl hj with ⟨g5, rfl⟩ | ⟨g5, g6⟩
    · refine ⟨B, ?_, c1.keep (fun b h3 h4 => by rw [zu_a (by omega), zu_a (by omega)])⟩
      rw [show ((nx + 1) % 40 + 40 - (pushH hs q).length + j) % 40 = nx by omega]
      exact hB
    · obtain ⟨b, b1, b2⟩ := hent _ q g6
      have hpos : (nx + 40 - hs.length + (j + (hs.length + 1 - (pushH hs s).length))) % 40 = ((nx + 1) % 40 + 40 - (pushH hs s).length + j) % 40 := by omega
      have hne : ((nx + 1) % 40 + 40 - (pushH hs s).length + j) % 40 ≠ nx := by omega
      rw [hpos] at b1
      have b1' := b1
      rw [← hoth _ (by omega) hne] at b1'
      have hbb := hst1 _ b (by omega) b1'
      have hBb : b ≠ B := fun e => hne (hdi1 _ _ b (by omega) hnx b1' (by rw [e]; exact hB))
      have hap := sta_apart hbb.2.2 hB3 hBb
      refine ⟨b, b1', b2.keep (fun q h3 h4 => ?_)⟩
      have hold := hst _ b (by omega) b1
      rw [zu_a (by omega), zu_a (by omega), c2 q (by omega), hI1 q (by omega)]
  show qev (d + 1) 39 (0, [.ref 101, .ref a], [], g, I, J) Q
  refine e_next (pc' := 1) rfl rfl ?_
  refine e_getR (w := 102) (pc' := 4) rfl rfl (hsh.o rfl) (hsh.a rfl) ?_
  refine e_next (pc' := 5) rfl rfl ?_
  refine e_getI (pc' := 8) rfl (Or.inl rfl) rfl (hsh.o rfl) ?_
  refine e_aald nx (v := g.2.1 102 nx) (pc' := 9) rfl rfl k102 rfl h1 hnx (by omega) rfl ?_
  refine e_ifnonnull (x := g.2.1 102 nx) (pc' := 12) rfl rfl (fun B hB => ?_) (fun hN => ?_)
  · exact fin g I J B ⟨hsh, h120, hst, hdi⟩ ⟨Nat.le_refl _, fun _ _ => rfl⟩ (fun _ _ _ => rfl) (fun _ _ _ _ => rfl) (by omega) (by omega) hB (fun _ _ => rfl) (fun _ _ => rfl)
  · refine e_next (pc' := 13) rfl rfl ?_
    refine e_getR (w := 102) (pc' := 16) rfl rfl (hsh.o rfl) (hsh.a rfl) ?_
    refine e_next (pc' := 17) rfl rfl ?_
    refine e_getI (pc' := 20) rfl (Or.inl rfl) rfl (hsh.o rfl) ?_
    refine e_new (a := 7) (b := 4) (pc' := 23) rfl rfl rfl ?_
    generalize hg0 : qmk 7 4 g = g0
    generalize hI0 : qmI g I = I0
    generalize hJ0 : qmJ g J = J0
    have n0 : g0.2.2.1 = g.2.2.1 + 1 := by rw [← hg0]; rfl
    have s0 : g0.2.2.2 = g.2.2.2 + 4 := by rw [← hg0]; rfl
    have K0 : ∀ a, a ≠ g.2.2.1 → g0.1 a = g.1 a := fun a ha => by rw [← hg0]; exact zmk_K ha
    have K0s : g0.1 g.2.2.1 = some (7, 4) := by rw [← hg0]; exact zmk_s
    have A0 : ∀ a, a ≠ g.2.2.1 → g0.2.1 a = g.2.1 a := fun a ha => by rw [← hg0]; exact zmk_A ha
    have i0 : ∀ q, q < g.2.2.1 → I0 q = I q := fun q hq => by rw [← hI0]; exact zv_a (by omega)
    have j0 : ∀ q, q < g.2.2.1 → J0 q = J q := fun q hq => by rw [← hJ0]; exact zv_a (by omega)
    refine e_next (pc' := 24) rfl rfl ?_
    refine e_cgV (pc' := 27) rfl (e_sV (as := []) (fun _ => rfl) (Or.inr rfl) rfl (qob_of K0s) rfl rfl (Nat.le_of_ble_eq_true rfl) (Nat.le_of_ble_eq_true rfl) rfl) ?_
    refine k_newSt (o := g.2.2.1) K0s n0 (fun g1 I1 J1 c1 c2 c3 c4 c5 c6 c7 => ⟨rfl, ?_⟩)
    have gr : gGrow g g1 := ⟨by omega, fun a ha => by rw [c1.2 a (by omega), K0 a (by omega)]⟩
    have rf : ∀ a k, a < g.2.2.1 → g1.2.1 a k = g.2.1 a k := fun a k ha => by rw [c2 a k (by omega), A0 a (by omega)]
    have k1021 : g1.1 102 = some (104, 40) := by rw [gr.2 102 (by omega)]; exact k102
    have i1 : ∀ q, q < g.2.2.1 → I1 q = I q := fun q hq => by rw [c6 q (by omega), i0 q hq]
    refine e_aast nx (c := 104) (pc' := 28) rfl rfl k1021 rfl (qob_of c3.1) h1 hnx (by omega) ?_
    have gr2 : gGrow g (g1.1, qw g1.2.1 102 nx (some g.2.2.1), g1.2.2) := ⟨gr.1, gr.2⟩
    have rf2 : ∀ a k, a < g.2.2.1 → a ≠ 102 → (qw g1.2.1 102 nx (some g.2.2.1)) a k = g.2.1 a k := fun a k h3 h4 => by rw [zu_ab h4]; exact rf a k h3
    have sta2 : ∀ b, 120 ≤ b → b + 3 < g.2.2.1 → qSta g b → qSta (g1.1, qw g1.2.1 102 nx (some g.2.2.1), g1.2.2) b := fun b h3 h4 h5 => gr2.sta h5 h4 (fun k => rf2 b k (by omega) (by omega))
    have staN : qSta (g1.1, qw g1.2.1 102 nx (some g.2.2.1), g1.2.2) g.2.2.1 := ⟨c3.1, ⟨(zu_ab (by omega)).trans c3.a0, c3.k0⟩, ⟨(zu_ab (by omega)).trans c3.a1, c3.k1⟩, (zu_ab (by omega)).trans c3.a2, c3.k2⟩
    refine fin _ I1 J1 g.2.2.1 ⟨hsh.grow gr2 h120 (fun a k h3 h4 _ => rf2 a k (by omega) h4), ?_, fun i b hi hb => ?_, fun i j b hi hj hbi hbj => ?_⟩ gr2 (fun i hi hne => ?_) rf2 ?_ ?_ (show qw g1.2.1 102 nx (some g.2.2.1) 102 nx = some g.2.2.1 from zu_s) i1 (fun q hq => by rw [c7 q (by omega), j0 q hq])
    · show 120 ≤ g1.2.2.1; omega
    · dsimp only at hb
      by_cases hin : i = nx
      · rw [hin] at hb
        have : g.2.2.1 = b := Option.some.inj (zu_s.symm.trans hb)
        subst this
        exact ⟨h120, by show g.2.2.1 + 3 < g1.2.2.1; omega, staN⟩
      · have hb2 : g.2.1 102 i = some b := by rw [← rf 102 i (by omega)]; exact (zu_k hin).symm.trans hb
        have := hst i b hi hb2
        exact ⟨this.1, by show b + 3 < g1.2.2.1; omega, sta2 b this.1 this.2.1 this.2.2⟩
    · dsimp only at hbi hbj
      by_cases hin : i = nx
      · by_cases hjn : j = nx
        · rw [hin, hjn]
        · exfalso
          rw [hin] at hbi
          have e5 : g.2.2.1 = b := Option.some.inj (zu_s.symm.trans hbi)
          have hb2 : g.2.1 102 j = some b := by rw [← rf 102 j (by omega)]; exact (zu_k hjn).symm.trans hbj
          have := hst j b hj hb2
          omega
      · have hb2 : g.2.1 102 i = some b := by rw [← rf 102 i (by omega)]; exact (zu_k hin).symm.trans hbi
        by_cases hjn : j = nx
        · exfalso
          rw [hjn] at hbj
          have e5 : g.2.2.1 = b := Option.some.inj (zu_s.symm.trans hbj)
          have := hst i b hi hb2
          omega
        · have hb3 : g.2.1 102 j = some b := by rw [← rf 102 j (by omega)]; exact (zu_k hjn).symm.trans hbj
          exact hdi i j b hi hj hb2 hb3
    · rw [← rf 102 i (by omega)]
      show qw g1.2.1 102 nx (some g.2.2.1) 102 i = g1.2.1 102 i
      exact zu_k hne
    · show g1.2.2.1 ≤ _; omega
    · show g1.2.2.2 ≤ _; omega
end KHIST
