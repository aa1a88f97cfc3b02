/-! bytes as the reference keeps them -/
theorem b8_all : (List.range 256).all (fun b => decide ((Int32.toInt8 (Int32.toInt8 (nI b)).toInt32).toInt32 &&& nI 255 = nI b)) = true := by decide +kernel
theorem b8 {b : Nat} (h : b < 256) : (Int32.toInt8 (Int32.toInt8 (nI b)).toInt32).toInt32 &&& nI 255 = nI b := of_decide_eq_true (List.all_eq_true.mp b8_all b (List.mem_range.mpr h))
theorem rTp.push {t : List Nat} {I I' : qI} {b : Nat} (h : rTp t I) (hb : b < 256) (hb1 : 1 ≤ b) (hl : t.length < 320) (h1 : I' 105 2 = nI (t.length + 1)) (h2 : ∀ j, j ≠ t.length → I' 106 j = I 106 j) (h3 : I' 106 t.length &&& nI 255 = nI b) : rTp (t ++ [b]) I' := by
  obtain ⟨a1, a2, a3, a4⟩ := h
  have lt : ∀ j, j < t.length → tb (t ++ [b]) j = tb t j := fun j hj => by unfold tb; rw [List.getD_eq_getElem?_getD, List.getD_eq_getElem?_getD, List.getElem?_append_left hj]
  have eq : tb (t ++ [b]) t.length = b := by unfold tb; simp
  refine ⟨by rw [h1, List.length_append]; rfl, by rw [List.length_append]; exact hl, fun j hj => ?_, fun j => ?_⟩
  · rw [List.length_append] at hj
    by_cases e : j = t.length
    · rw [e, h3, eq]; exact ⟨rfl, hb1⟩
    · have hj : j < t.length := by simp only [List.length_cons, List.length_nil] at hj; omega
      rw [h2 j e, lt j hj]; exact a3 j hj
  · by_cases e : j = t.length
    · rw [e, eq]; exact hb
    · by_cases h : j < t.length
      · rw [lt j h]; exact a4 j
      · rw [tb_ge (by rw [List.length_append]; show t.length + 1 ≤ j; omega)]; omega
section RTAKE
variable {d : Nat} {g : qG} {I : qI} {J : qJ} {Q : qQ} {t : List Nat} {x : Int32}
def rtF (I I' : qI) : Prop := (∀ b, b ≠ 105 → b ≠ 106 → I' b = I b) ∧ ∀ f, f ≠ 2 → I' 105 f = I 105 f
theorem rtF.trans {I I1 I2 : qI} (h : rtF I I1) (h2 : rtF I1 I2) : rtF I I2 := ⟨fun b b1 b2 => by rw [h2.1 b b1 b2, h.1 b b1 b2], fun f hf => by rw [h2.2 f hf, h.2 f hf]⟩
theorem r_take_s (hs : qSh g) {s : Nat} (hs4 : s = 0 ∨ s = 8 ∨ s = 16 ∨ s = 24) (hT : rTp t I) (hl : t.length + (nb x s).length ≤ 320) {v3 : Value} (k : ∀ I' u, rtF I I' → rTp (t ++ nb x s) I' → qev d 150 (3, [.ref 105, .int x, .int (nI s + (-8)), u], [], g, I', J) Q) : qev d 150 (3, [.ref 105, .int x, .int (nI s), v3], [], g, I, J) Q := by
  have hb := bt_lt x s
  refine w150_3 hs (brN (nI_pos (by omega)) ?_)
  rw [shr_eq x hs4, bt_eq, ← nI_0, nI_eq (by omega) (by omega)]
  unfold nb at hl k
  by_cases h0 : bt x s = 0
  · rw [if_pos h0, List.append_nil] at k
    exact brT h0 (k I _ ⟨fun _ _ _ => rfl, fun _ _ => rfl⟩ hT)
  · rw [if_neg h0] at hl k
    have hl : t.length + 1 ≤ 320 := hl
    refine brN h0 ⟨t.length, hT.1, by omega, ?_⟩
    refine k _ _ ⟨fun b b1 b2 => by rw [zu_a b1, zu_a b2], fun f hf => by rw [zu_k hf, zu_a (by omega)]⟩ (hT.push hb (by omega) (by omega) (by rw [zu_s, zu_a (by omega), hT.1, nI_add]) (fun j hj => by rw [zu_a (by omega), zu_k hj]) (by rw [zu_a (by omega), zu_s]; exact b8 hb))
end RTAKE
