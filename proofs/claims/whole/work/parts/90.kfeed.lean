/-! feed, in the class -/
section KFEED
variable {d : Nat} {g : qG} {I : qI} {J : qJ} {Q : qQ} {t : List Nat} {x1 x2 x3 x4 x5 : Int32}
def by5 (x1 x2 x3 x4 x5 : Int32) : List Nat := bys x1 ++ (bys x2 ++ (bys x3 ++ (bys x4 ++ bys x5)))
theorem nb_le (x : Int32) (s : Nat) : (nb x s).length ≤ 1 := by rw [nb_len]; split <;> omega
theorem bys_le (x : Int32) : (bys x).length ≤ 4 := by
  unfold bys
  simp only [List.length_append]
  have := nb_le x 24
  have := nb_le x 16
  have := nb_le x 8
  have := nb_le x 0
  omega
theorem k_feed (hs : qSh g) (hT : kTp t I) (k1 : t.length + (by5 x1 x2 x3 x4 x5).length ≤ 320 → ∀ I', tF I I' → kTp (t ++ by5 x1 x2 x3 x4 x5) I' → Q (some (.int (nI (t ++ by5 x1 x2 x3 x4 x5).length))) g I' J) (k0 : ¬ t.length + (by5 x1 x2 x3 x4 x5).length ≤ 320 → Q (some (.int (-1))) g I J) : qC (d + 1) 99 [.ref 4, .int x1, .int x2, .int x3, .int x4, .int x5] g I J Q := by
  have hl := hT.2.1
  have a1 := bys_le x1
  have a2 := bys_le x2
  have a3 := bys_le x3
  have a4 := bys_le x4
  have a5 := bys_le x5
  have e : (by5 x1 x2 x3 x4 x5).length = (bys x1).length + ((bys x2).length + ((bys x3).length + ((bys x4).length + (bys x5).length))) := by unfold by5; simp only [List.length_append]
  refine w99 hs (k_cnt ⟨_, rfl, k_cnt ⟨_, rfl, k_cnt ⟨_, rfl, k_cnt ⟨_, rfl, k_cnt ⟨_, rfl, ?_⟩⟩⟩⟩⟩)
  rw [hT.1, nI_add, nI_add, nI_add, nI_add, nI_add, nI_leI (by omega) (by omega)]
  refine ⟨fun h => ?_, fun h => k0 (by omega)⟩
  refine k_take hs hT (by omega) (fun I1 f1 T1 => ⟨rfl, k_take hs T1 (by simp only [List.length_append]; omega) (fun I2 f2 T2 => ⟨rfl, k_take hs T2 (by simp only [List.length_append]; omega) (fun I3 f3 T3 => ⟨rfl, k_take hs T3 (by simp only [List.length_append]; omega) (fun I4 f4 T4 => ⟨rfl, k_take hs T4 (by simp only [List.length_append]; omega) (fun I5 f5 T5 => ⟨rfl, ?_⟩)⟩)⟩)⟩)⟩)
  have ea : t ++ bys x1 ++ bys x2 ++ bys x3 ++ bys x4 ++ bys x5 = t ++ by5 x1 x2 x3 x4 x5 := by unfold by5; simp only [List.append_assoc]
  rw [ea] at T5
  rw [T5.1]
  exact k1 (by omega) I5 ((((f1.trans f2).trans f3).trans f4).trans f5) T5
end KFEED
