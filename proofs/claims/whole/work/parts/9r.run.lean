/-! the law's whole run on the abstract machine -/
section RUNS
variable {L : Nat} {g : qG} {I I0 : qI} {J : qJ}
theorem qnth_lt {α : Type} {b : α} : ∀ (l : List (Option α)) (k : Nat), qnth l k none = some b → k < l.length
  | [], k, h => by cases h
  | x :: l, 0, h => Nat.zero_lt_succ _
  | x :: l, k + 1, h => Nat.succ_lt_succ (qnth_lt l k h)
theorem qA0_rows : ∀ a, a < 120 → (qnth (qnth qa0 (a / 16) []) (a % 16) []).length ≤ 40 := by decide +kernel
theorem qA0_AT : ∀ a, a < 120 → ∀ k, k < 40 → (match qA0 a k with | none => true | some b => match AT 116 a k with | none => false | some c => Nat.beq b c) = true := by decide +kernel
theorem gIn.sh (G : gIn L I0 120 116 32692 g I) : qSh g := by
  refine ⟨fun a t h => ?_, fun a k b h => ?_⟩
  · have h1 : a < 120 := Nat.lt_of_not_le (fun h2 => by rw [qK0_lt a h2] at h; cases h)
    have h4 : 4 ≤ a := Nat.le_of_not_lt (fun h2 => by
      rcases (show a = 0 ∨ a = 1 ∨ a = 2 ∨ a = 3 by omega) with rfl | rfl | rfl | rfl <;> cases h)
    rw [G.2.2.2.1 a h4 h1]; exact h
  · have h1 : a < 120 := Nat.lt_of_not_le (fun h2 => by rw [qA0_lt a k h2] at h; cases h)
    have h2 : k < 40 := Nat.lt_of_lt_of_le (qnth_lt _ k h) (qA0_rows a h1)
    have h4 : 4 ≤ a := Nat.le_of_not_lt (fun h2 => by
      rcases (show a = 0 ∨ a = 1 ∨ a = 2 ∨ a = 3 by omega) with rfl | rfl | rfl | rfl <;> cases h)
    rw [G.2.2.2.2.1 a k h4]
    have h3 := qA0_AT a h1 k h2
    rw [h] at h3
    dsimp only at h3
    cases e : AT 116 a k with
    | none => rw [e] at h3; cases h3
    | some c =>
      rw [e] at h3
      dsimp only at h3
      rw [Nat.eq_of_beq_eq_true h3]
theorem gIn.inv (G : gIn L I0 120 116 32692 g I) : lwI L ([], 0, 0, s0, [], none, [], fun _ => 0) g I := by
  have hsh := G.sh
  have z : ∀ b j, 4 ≤ b → b < 120 → b ≠ 12 → I b j = 0 := fun b j h1 h2 h3 => G.2.2.2.2.2.1 b h1 h2 h3 j
  have z0 : ∀ b j, 4 ≤ b → b < 120 → b ≠ 12 → I b j = nI 0 := fun b j h1 h2 h3 => by rw [z b j h1 h2 h3, nI_0]
  have t0 : ∀ j, tb [] j = 0 := fun j => tb_ge (Nat.zero_le _)
  have n102 : ∀ k, g.2.1 102 k = none := fun k => by rw [G.2.2.2.2.1 102 k (by omega)]; exact AT_none 116 102 k (by decide +kernel)
  have r83 : ∀ k b, AT 116 83 k = some b → g.2.1 83 k = some b := fun k b h => by rw [G.2.2.2.2.1 83 k (by omega)]; exact h
  refine ⟨⟨⟨hsh, by rw [G.1]; omega, fun i b hi hb => ?_, fun i j b hi hj hb => ?_⟩, ⟨85, 86, r83 0 84 (by decide +kernel), r83 1 85 (by decide +kernel), r83 2 86 (by decide +kernel), hsh.k rfl, hsh.k rfl, hsh.k rfl, Or.inl ⟨rfl, rfl⟩⟩, z0 8 0 (by omega) (by omega) (by omega), ⟨z0 5 1 (by omega) (by omega) (by omega), Nat.zero_le _, fun j hj => absurd hj (Nat.not_lt_zero j), fun j => by rw [t0]; omega⟩, ⟨?_, fun h => absurd rfl h⟩, ⟨fun r hr => ⟨z0 90 r (by omega) (by omega) (by omega), fun i hi => absurd hi (Nat.not_lt_zero i)⟩, z0 89 3 (by omega) (by omega) (by omega), fun j e he => (by cases he)⟩, ⟨0, z0 101 1 (by omega) (by omega) (by omega), by omega, z0 101 2 (by omega) (by omega) (by omega), Nat.zero_le _, fun j q hj => (by cases hj)⟩, z0 4 15 (by omega) (by omega) (by omega), ⟨z0 4 13 (by omega) (by omega) (by omega), fun j ss hj => (by cases hj)⟩, fun i hi => z 104 i (by omega) (by omega) (by omega)⟩, ⟨⟨z0 105 2 (by omega) (by omega) (by omega), Nat.zero_le _, fun j hj => absurd hj (Nat.not_lt_zero j), fun j => by rw [t0]; omega⟩, ⟨?_, fun h => absurd rfl h⟩, ⟨fun r hr => ⟨z0 111 _ (by omega) (by omega) (by omega), fun i hi => absurd hi (Nat.not_lt_zero i)⟩, z0 111 _ (by omega) (by omega) (by omega), fun j e he => (by cases he)⟩, ⟨0, z0 105 21 (by omega) (by omega) (by omega), by omega, z0 105 22 (by omega) (by omega) (by omega), Nat.zero_le _, fun j q hj => (by cases hj)⟩, z0 105 23 (by omega) (by omega) (by omega), ⟨z0 105 13 (by omega) (by omega) (by omega), fun j ss hj => (by cases hj)⟩, fun i hi => z 116 i (by omega) (by omega) (by omega)⟩, ⟨Or.inl ⟨rfl, rfl, rfl, rfl⟩, Nat.zero_le _, fun ss hs => (by cases hs)⟩, G.2.2.1⟩
  · rw [n102] at hb; cases hb
  · rw [n102] at hb; cases hb
  · exact z0 4 14 (by omega) (by omega) (by omega)
  · rw [z 105 7 (by omega) (by omega) (by omega)]; exact iI_z0
theorem law_run (hL : L ≤ 3584) (G : gIn L I0 4 0 0 g I) : qC 91 270 [.ref 0] g I J (fun v g' _ _ => v = some (.int (nI 1)) ∧ g'.2.2.1 ≤ 82040 ∧ g'.2.2.2 ≤ 5439412) := by
  refine lw_start (d := 88) G (fun g1 I1 J1 G1 => ?_)
  have n1 := G1.1
  have n2 := G1.2.1
  exact lw_loop (d := 0) hL (B1 := 82040) (B2 := 5439412) (fun g2 I2 J2 b1 b2 => ⟨rfl, b1, b2⟩) 512 0 g1 I1 J1 _ qpad qpad (by omega) (by omega) G1.inv (by omega) (by omega)
end RUNS
