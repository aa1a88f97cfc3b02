/-! bytes counted -/
section COUNT
variable {d : Nat} {g : qG} {I : qI} {J : qJ} {Q : qQ} {x : Int32}
theorem nb_len (x : Int32) (s : Nat) : (nb x s).length = if bt x s = 0 then 0 else 1 := by
  unfold nb
  split <;> rfl
theorem k_cnt_s {s n : Nat} (hs : s ≤ 24) (k : qev d 132 (5, [.int x, .int (nI (n + (nb x s).length)), .int (nI s + (-8))], [], g, I, J) Q) : qev d 132 (5, [.int x, .int (nI n), .int (nI s)], [], g, I, J) Q := by
  have hb := bt_lt x s
  refine w132_5 (brN (nI_pos (by omega)) ?_)
  rw [bt_eq, ← nI_0, nI_eq (by omega) (by omega)]
  rw [nb_len] at k
  by_cases h0 : bt x s = 0
  · rw [if_pos h0] at k; exact brT h0 k
  · rw [if_neg h0] at k
    refine brN h0 ?_
    rw [nI_add]; exact k
theorem k_cnt (k : Q (some (.int (nI (bys x).length))) g I J) : qC d 132 [.int x] g I J Q := by
  refine w132 (k_cnt_s (by omega) ?_)
  rw [show nI 24 + (-8) = nI 16 by decide +kernel]
  refine k_cnt_s (by omega) ?_
  rw [show nI 16 + (-8) = nI 8 by decide +kernel]
  refine k_cnt_s (by omega) ?_
  rw [show nI 8 + (-8) = nI 0 by decide +kernel]
  refine k_cnt_s (by omega) ?_
  refine w132_5 (brT (by decide +kernel) ?_)
  unfold bys at k
  simp only [List.length_append] at k
  rw [show 0 + (nb x 24).length + (nb x 16).length + (nb x 8).length + (nb x 0).length = (nb x 24).length + ((nb x 16).length + ((nb x 8).length + (nb x 0).length)) by omega]
  exact k
end COUNT
