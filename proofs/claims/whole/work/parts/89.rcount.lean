/-! bytes counted, in the reference -/
section RCOUNT
variable {d : Nat} {g : qG} {I : qI} {J : qJ} {Q : qQ} {x : Int32}
theorem r_cnt_s {i n : Nat} (hi : i < 4) (k : qev d 149 (4, [.int x, .int (nI (n + (nb x (8 * i)).length)), .int (nI (i + 1))], [], g, I, J) Q) : qev d 149 (4, [.int x, .int (nI n), .int (nI i)], [], g, I, J) Q := by
  have hb := bt_lt x (8 * i)
  refine w149_4 (brN (by rw [nI_leI (by omega) (by omega)]; omega) ?_)
  rw [pk_mul, shr_eq x (by omega), bt_eq, ← nI_0, nI_eq (by omega) (by omega)]
  rw [nb_len] at k
  rw [nI_add, nI_add, nI_add]
  by_cases h0 : bt x (8 * i) = 0
  · rw [if_pos h0] at k; exact brT h0 k
  · rw [if_neg h0] at k
    exact brN h0 k
theorem r_cnt (k : Q (some (.int (nI (bys x).length))) g I J) : qC d 149 [.int x] g I J Q := by
  refine w149 (r_cnt_s (by omega) (r_cnt_s (by omega) (r_cnt_s (by omega) (r_cnt_s (by omega) ?_))))
  refine w149_4 (brT (by decide +kernel) ?_)
  unfold bys at k
  simp only [List.length_append] at k
  rw [show 0 + (nb x (8 * 0)).length + (nb x (8 * (0 + 1))).length + (nb x (8 * (0 + 1 + 1))).length + (nb x (8 * (0 + 1 + 1 + 1))).length = (nb x 24).length + ((nb x 16).length + ((nb x 8).length + (nb x 0).length)) by
    show 0 + (nb x 0).length + (nb x 8).length + (nb x 16).length + (nb x 24).length = _
    omega]
  exact k
end RCOUNT
