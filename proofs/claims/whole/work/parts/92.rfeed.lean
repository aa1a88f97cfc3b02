/-! feed, in the reference -/
section RFEED
variable {d : Nat} {g : qG} {I : qI} {J : qJ} {Q : qQ} {t : List Nat} {x x1 x2 x3 x4 x5 : Int32}
theorem r_brg (hs : qSh g) (hT : rTp t I) (hl : t.length + (bys x).length ≤ 320) (k : ∀ I', rtF I I' → rTp (t ++ bys x) I' → Q none g I' J) : qC d 150 [.ref 105, .int x] g I J Q := by
  unfold bys at hl k
  simp only [List.length_append] at hl
  refine w150 (r_take_s hs (by omega) hT (by omega) (fun I1 u1 f1 T1 => ?_))
  rw [show nI 24 + (-8) = nI 16 by decide +kernel]
  refine r_take_s hs (by omega) T1 (by rw [List.length_append]; omega) (fun I2 u2 f2 T2 => ?_)
  rw [show nI 16 + (-8) = nI 8 by decide +kernel]
  refine r_take_s hs (by omega) T2 (by simp only [List.length_append]; omega) (fun I3 u3 f3 T3 => ?_)
  rw [show nI 8 + (-8) = nI 0 by decide +kernel]
  refine r_take_s hs (by omega) T3 (by simp only [List.length_append]; omega) (fun I4 u4 f4 T4 => ?_)
  refine w150_3 hs (brT (by decide +kernel) (k I4 (((f1.trans f2).trans f3).trans f4) ?_))
  simp only [List.append_assoc] at T4
  exact T4
theorem r_feed (hs : qSh g) (hT : rTp t I) (k1 : t.length + (by5 x1 x2 x3 x4 x5).length ≤ 320 → ∀ I', rtF (qw I 105 0 (nI 0)) I' → rTp (t ++ by5 x1 x2 x3 x4 x5) I' → Q (some (.int (nI (t ++ by5 x1 x2 x3 x4 x5).length))) g I' J) (k0 : ¬ t.length + (by5 x1 x2 x3 x4 x5).length ≤ 320 → Q (some (.int (-1))) g (qw I 105 0 (nI 0)) J) : qC (d + 1) 151 [.ref 105, .int x1, .int x2, .int x3, .int x4, .int x5] g I J Q := by
  have hl := hT.2.1
  have a1 := bys_le x1
  have a2 := bys_le x2
  have a3 := bys_le x3
  have a4 := bys_le x4
  have a5 := bys_le x5
  have e : (by5 x1 x2 x3 x4 x5).length = (bys x1).length + ((bys x2).length + ((bys x3).length + ((bys x4).length + (bys x5).length))) := by unfold by5; simp only [List.length_append]
  have T0 : rTp t (qw I 105 0 (nI 0)) := hT.keep (zu_k (by omega)) (zu_a (by omega))
  refine w151 hs (r_cnt ⟨_, rfl, r_cnt ⟨_, rfl, r_cnt ⟨_, rfl, r_cnt ⟨_, rfl, r_cnt ⟨_, rfl, ?_⟩⟩⟩⟩⟩)
  rw [T0.1, nI_add, nI_add, nI_add, nI_add, nI_add, nI_leI (by omega) (by omega)]
  refine ⟨fun h => ?_, fun h => k0 (by omega)⟩
  refine r_brg hs T0 (by omega) (fun I1 f1 T1 => ⟨rfl, r_brg hs T1 (by simp only [List.length_append]; omega) (fun I2 f2 T2 => ⟨rfl, r_brg hs T2 (by simp only [List.length_append]; omega) (fun I3 f3 T3 => ⟨rfl, r_brg hs T3 (by simp only [List.length_append]; omega) (fun I4 f4 T4 => ⟨rfl, r_brg hs T4 (by simp only [List.length_append]; omega) (fun I5 f5 T5 => ⟨rfl, ?_⟩)⟩)⟩)⟩)⟩)
  have ea : t ++ bys x1 ++ bys x2 ++ bys x3 ++ bys x4 ++ bys x5 = t ++ by5 x1 x2 x3 x4 x5 := by unfold by5; simp only [List.append_assoc]
  rw [ea] at T5
  rw [T5.1]
  exact k1 (by omega) I5 ((((f1.trans f2).trans f3).trans f4).trans f5) T5
end RFEED
