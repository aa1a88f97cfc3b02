/-! the class takes bytes -/
def bt (x : Int32) (s : Nat) : Nat := (qushr x (nI s) &&& nI 255).toBitVec.toNat
theorem bt_eq (x : Int32) (s : Nat) : qushr x (nI s) &&& nI 255 = nI (bt x s) := by
  apply Int32.toBitVec_inj.mp
  show _ = BitVec.ofNat 32 (bt x s)
  unfold bt
  rw [BitVec.ofNat_toNat, BitVec.setWidth_eq]
theorem bt_lt (x : Int32) (s : Nat) : bt x s < 256 := by
  obtain ⟨n, h, e⟩ := and255 (qushr x (nI s))
  unfold bt
  rw [e]
  show (BitVec.ofNat 32 n).toNat < 256
  rw [BitVec.toNat_ofNat]
  omega
def nb (x : Int32) (s : Nat) : List Nat := if bt x s = 0 then [] else [bt x s]
def bys (x : Int32) : List Nat := nb x 24 ++ (nb x 16 ++ (nb x 8 ++ nb x 0))
theorem kTp.push {t : List Nat} {I I' : qI} {b : Nat} (h : kTp t I) (hb : b < 256) (hl : t.length < 320) (h1 : I' 5 1 = nI (t.length + 1)) (h2 : ∀ j, j ≠ t.length → I' 6 j = I 6 j) (h3 : I' 6 t.length = nI b) : kTp (t ++ [b]) I' := by
  obtain ⟨a1, a2, a3, a4⟩ := h
  have lt : ∀ j, j < t.length → tb (t ++ [b]) j = tb t j := fun j hj => by unfold tb; rw [List.getD_eq_getElem?_getD, List.getD_eq_getElem?_getD, List.getElem?_append_left hj]
  have eq : tb (t ++ [b]) t.length = b := by unfold tb; simp
  refine ⟨by rw [h1, List.length_append]; rfl, by rw [List.length_append]; exact hl, fun j hj => ?_, fun j => ?_⟩
  · rw [List.length_append] at hj
    by_cases e : j = t.length
    · rw [e, h3, eq]
    · have hj : j < t.length := by simp only [List.length_cons, List.length_nil] at hj; omega
      rw [h2 j e, lt j hj]; exact a3 j hj
  · by_cases e : j = t.length
    · rw [e, eq]; exact hb
    · by_cases h : j < t.length
      · rw [lt j h]; exact a4 j
      · rw [tb_ge (by rw [List.length_append]; show t.length + 1 ≤ j; omega)]; omega
section KTAKE
variable {d : Nat} {g : qG} {I : qI} {J : qJ} {Q : qQ} {t : List Nat} {x : Int32}
def tF (I I' : qI) : Prop := (∀ b, b ≠ 5 → b ≠ 6 → I' b = I b) ∧ ∀ f, f ≠ 1 → I' 5 f = I 5 f
theorem tF.trans {I I1 I2 : qI} (h : tF I I1) (h2 : tF I1 I2) : tF I I2 := ⟨fun b b1 b2 => by rw [h2.1 b b1 b2, h.1 b b1 b2], fun f hf => by rw [h2.2 f hf, h.2 f hf]⟩
theorem k_take_s (hs : qSh g) {s : Nat} (hs24 : s ≤ 24) (hT : kTp t I) (hl : t.length + (nb x s).length ≤ 320) {v3 : Value} (k : ∀ I' u, tF I I' → kTp (t ++ nb x s) I' → qev d 97 (3, [.ref 5, .int x, .int (nI s + (-8)), u], [], g, I', J) Q) : qev d 97 (3, [.ref 5, .int x, .int (nI s), v3], [], g, I, J) Q := by
  have hb := bt_lt x s
  refine w97_3 hs (brN (nI_pos (by omega)) ?_)
  rw [bt_eq, ← nI_0, nI_eq (by omega) (by omega)]
  unfold nb at hl k
  by_cases h0 : bt x s = 0
  · rw [if_pos h0, List.append_nil] at k
    exact brT h0 (k I _ ⟨fun _ _ _ => rfl, fun _ _ => rfl⟩ hT)
  · rw [if_neg h0] at hl k
    have hl : t.length + 1 ≤ 320 := hl
    refine brN h0 (brN (by rw [hT.1, nI_leI (by omega) (by omega)]; omega) ⟨t.length, hT.1, by omega, ?_⟩)
    refine k _ _ ⟨fun b b1 b2 => by rw [zu_a b1, zu_a b2], fun f hf => by rw [zu_k hf, zu_a (by omega)]⟩ (hT.push hb (by omega) (by rw [zu_s, zu_a (by omega), hT.1, nI_add]) (fun j hj => by rw [zu_a (by omega), zu_k hj]) (by rw [zu_a (by omega), zu_s]))
theorem k_take (hs : qSh g) (hT : kTp t I) (hl : t.length + (bys x).length ≤ 320) (k : ∀ I', tF I I' → kTp (t ++ bys x) I' → Q none g I' J) : qC d 97 [.ref 5, .int x] g I J Q := by
  unfold bys at hl k
  simp only [List.length_append] at hl
  refine w97 (k_take_s hs (by omega) hT (by omega) (fun I1 u1 f1 T1 => ?_))
  rw [show nI 24 + (-8) = nI 16 by decide +kernel]
  refine k_take_s hs (by omega) T1 (by rw [List.length_append]; omega) (fun I2 u2 f2 T2 => ?_)
  rw [show nI 16 + (-8) = nI 8 by decide +kernel]
  refine k_take_s hs (by omega) T2 (by simp only [List.length_append]; omega) (fun I3 u3 f3 T3 => ?_)
  rw [show nI 8 + (-8) = nI 0 by decide +kernel]
  refine k_take_s hs (by omega) T3 (by simp only [List.length_append]; omega) (fun I4 u4 f4 T4 => ?_)
  refine w97_3 hs (brT (by decide +kernel) (k I4 (((f1.trans f2).trans f3).trans f4) ?_))
  simp only [List.append_assoc] at T4
  exact T4
end KTAKE
