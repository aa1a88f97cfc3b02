theorem qdl_join {cc : ByteArray} {k n : Nat} {l : List (List (Option qE))} (h1 : qdl cc k ((l.drop k).take n) = true) (h2 : qdl cc (k + n) (l.drop (k + n)) = true) : qdl cc k (l.drop k) = true := by
  rw [qdl_split cc n, h1, List.drop_drop, h2]
  rfl
theorem qdL_end : qdl code 90 (qp270.drop 90) = true := by decide +kernel
theorem qdLs_80 : qdl code 80 (qp270.drop 80) = true := qdl_join (k := 80) (n := 10) qdL_80 qdL_end
theorem qdLs_70 : qdl code 70 (qp270.drop 70) = true := qdl_join (k := 70) (n := 10) qdL_70 qdLs_80
theorem qdLs_60 : qdl code 60 (qp270.drop 60) = true := qdl_join (k := 60) (n := 10) qdL_60 qdLs_70
theorem qdLs_50 : qdl code 50 (qp270.drop 50) = true := qdl_join (k := 50) (n := 10) qdL_50 qdLs_60
theorem qdLs_40 : qdl code 40 (qp270.drop 40) = true := qdl_join (k := 40) (n := 10) qdL_40 qdLs_50
theorem qdLs_30 : qdl code 30 (qp270.drop 30) = true := qdl_join (k := 30) (n := 10) qdL_30 qdLs_40
theorem qdLs_20 : qdl code 20 (qp270.drop 20) = true := qdl_join (k := 20) (n := 10) qdL_20 qdLs_30
theorem qdLs_10 : qdl code 10 (qp270.drop 10) = true := qdl_join (k := 10) (n := 10) qdL_10 qdLs_20
theorem qdLs_0 : qdl code 0 (qp270.drop 0) = true := qdl_join (k := 0) (n := 10) qdL_0 qdLs_10
theorem qd_271 : ∀ k, k < 1 → qdok (270 + k) = true := fun k hk => by
  rw [show k = 0 by omega]
  exact qdLs_0
theorem qd_all (m : Nat) (hm : m < 271) : qdok m = true := by
  by_cases h44 : m < 44
  · have := qd_44 (m - 0) (by omega); rwa [show 0 + (m - 0) = m by omega] at this
  by_cases h91 : m < 91
  · have := qd_91 (m - 44) (by omega); rwa [show 44 + (m - 44) = m by omega] at this
  by_cases h145 : m < 145
  · have := qd_145 (m - 91) (by omega); rwa [show 91 + (m - 91) = m by omega] at this
  by_cases h200 : m < 200
  · have := qd_200 (m - 145) (by omega); rwa [show 145 + (m - 145) = m by omega] at this
  by_cases h240 : m < 240
  · have := qd_240 (m - 200) (by omega); rwa [show 200 + (m - 200) = m by omega] at this
  by_cases h270 : m < 270
  · have := qd_270 (m - 240) (by omega); rwa [show 240 + (m - 240) = m by omega] at this
  have := qd_271 (m - 270) (by omega)
  rwa [show 270 + (m - 270) = m by omega] at this
theorem qdr_at {cc : ByteArray} {x : qE} : ∀ (r : List (Option qE)) (pc j : Nat), qdr cc pc r = true → qnth r j none = some x → decode cc (pc + j) = .ok (x.1, x.2.1)
  | [], _, _, _, h => by cases h
  | none :: r, pc, 0, _, h => by cases h
  | some y :: r, pc, 0, hd, h => by
    cases h
    unfold qdr at hd
    simp only [Bool.and_eq_true, decide_eq_true_eq] at hd
    exact hd.1
  | none :: r, pc, j + 1, hd, h => by
    have := qdr_at r (pc + 1) j hd h
    rwa [Nat.add_assoc, Nat.add_comm 1 j] at this
  | some y :: r, pc, j + 1, hd, h => by
    unfold qdr at hd
    simp only [Bool.and_eq_true] at hd
    have := qdr_at r (pc + 1) j hd.2 h
    rwa [Nat.add_assoc, Nat.add_comm 1 j] at this
theorem qdl_at {cc : ByteArray} {x : qE} : ∀ (l : List (List (Option qE))) (k i j : Nat), qdl cc k l = true → qnth (qnth l i []) j none = some x → decode cc (16 * (k + i) + j) = .ok (x.1, x.2.1)
  | [], _, _, _, _, h => by cases h
  | r :: l, k, 0, j, hd, h => by
    unfold qdl at hd
    simp only [Bool.and_eq_true] at hd
    exact qdr_at r (16 * k) j hd.1 h
  | r :: l, k, i + 1, j, hd, h => by
    unfold qdl at hd
    simp only [Bool.and_eq_true] at hd
    have := qdl_at l (k + 1) i j hd.2 h
    rwa [Nat.add_assoc, Nat.add_comm 1 i] at this
theorem qdec {m pc : Nat} {x : qE} (h : qP m pc = some x) : decode (qYm m).2.1 pc = .ok (x.1, x.2.1) := by
  have hd := qd_all m (qP_lt h)
  have := qdl_at (qpm m) 0 (pc / 16) (pc % 16) hd h
  rwa [Nat.zero_add, Nat.div_add_mod] at this
