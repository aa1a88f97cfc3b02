theorem w267 {d : Nat} {x1 : Int32} {g : qG} {I : qI} {J : qJ} {Q : qQ}  (h : Q (some (.int ((((((((x1 - ((qushr x1 (nI 1)) &&& (nI 1431655765))) &&& (nI 858993459)) + ((qushr (x1 - ((qushr x1 (nI 1)) &&& (nI 1431655765))) (nI 2)) &&& (nI 858993459))) + (qushr (((x1 - ((qushr x1 (nI 1)) &&& (nI 1431655765))) &&& (nI 858993459)) + ((qushr (x1 - ((qushr x1 (nI 1)) &&& (nI 1431655765))) (nI 2)) &&& (nI 858993459))) (nI 4))) &&& (nI 252645135)) + (qushr (((((x1 - ((qushr x1 (nI 1)) &&& (nI 1431655765))) &&& (nI 858993459)) + ((qushr (x1 - ((qushr x1 (nI 1)) &&& (nI 1431655765))) (nI 2)) &&& (nI 858993459))) + (qushr (((x1 - ((qushr x1 (nI 1)) &&& (nI 1431655765))) &&& (nI 858993459)) + ((qushr (x1 - ((qushr x1 (nI 1)) &&& (nI 1431655765))) (nI 2)) &&& (nI 858993459))) (nI 4))) &&& (nI 252645135)) (nI 8))) + (qushr ((((((x1 - ((qushr x1 (nI 1)) &&& (nI 1431655765))) &&& (nI 858993459)) + ((qushr (x1 - ((qushr x1 (nI 1)) &&& (nI 1431655765))) (nI 2)) &&& (nI 858993459))) + (qushr (((x1 - ((qushr x1 (nI 1)) &&& (nI 1431655765))) &&& (nI 858993459)) + ((qushr (x1 - ((qushr x1 (nI 1)) &&& (nI 1431655765))) (nI 2)) &&& (nI 858993459))) (nI 4))) &&& (nI 252645135)) + (qushr (((((x1 - ((qushr x1 (nI 1)) &&& (nI 1431655765))) &&& (nI 858993459)) + ((qushr (x1 - ((qushr x1 (nI 1)) &&& (nI 1431655765))) (nI 2)) &&& (nI 858993459))) + (qushr (((x1 - ((qushr x1 (nI 1)) &&& (nI 1431655765))) &&& (nI 858993459)) + ((qushr (x1 - ((qushr x1 (nI 1)) &&& (nI 1431655765))) (nI 2)) &&& (nI 858993459))) (nI 4))) &&& (nI 252645135)) (nI 8))) (nI 16))) &&& (nI 63)))) g I J) : qC d 267 [.int x1] g I J Q := by
  show qev d 267 (0, [.int x1], [], g, I, J) Q
  refine e_next (pc' := 1) rfl rfl ?_
  refine e_next (pc' := 2) rfl rfl ?_
  refine e_iconst (pc' := 3) rfl rfl kc_1 ?_
  refine e_next (pc' := 4) rfl rfl ?_
  refine e_ldcw (pc' := 7) rfl rfl kn_1431655765 ?_
  refine e_next (pc' := 8) rfl rfl ?_
  refine e_next (pc' := 9) rfl rfl ?_
  refine e_next (pc' := 10) (ls' := [_]) rfl rfl ?_
  refine e_next (pc' := 11) rfl rfl ?_
  refine e_ldcw (pc' := 14) rfl rfl kn_858993459 ?_
  refine e_next (pc' := 15) rfl rfl ?_
  refine e_next (pc' := 16) rfl rfl ?_
  refine e_iconst (pc' := 17) rfl rfl kc_2 ?_
  refine e_next (pc' := 18) rfl rfl ?_
  refine e_ldcw (pc' := 21) rfl rfl kn_858993459 ?_
  refine e_next (pc' := 22) rfl rfl ?_
  refine e_next (pc' := 23) rfl rfl ?_
  refine e_next (pc' := 24) (ls' := [_]) rfl rfl ?_
  refine e_next (pc' := 25) rfl rfl ?_
  refine e_next (pc' := 26) rfl rfl ?_
  refine e_iconst (pc' := 27) rfl rfl kc_4 ?_
  refine e_next (pc' := 28) rfl rfl ?_
  refine e_next (pc' := 29) rfl rfl ?_
  refine e_ldcw (pc' := 32) rfl rfl kn_252645135 ?_
  refine e_next (pc' := 33) rfl rfl ?_
  refine e_next (pc' := 34) (ls' := [_]) rfl rfl ?_
  refine e_next (pc' := 35) rfl rfl ?_
  refine e_next (pc' := 36) rfl rfl ?_
  refine e_bipush (pc' := 38) rfl rfl kb_8 ?_
  refine e_next (pc' := 39) rfl rfl ?_
  refine e_next (pc' := 40) rfl rfl ?_
  refine e_next (pc' := 41) (ls' := [_]) rfl rfl ?_
  refine e_next (pc' := 42) rfl rfl ?_
  refine e_next (pc' := 43) rfl rfl ?_
  refine e_bipush (pc' := 45) rfl rfl kb_16 ?_
  refine e_next (pc' := 46) rfl rfl ?_
  refine e_next (pc' := 47) rfl rfl ?_
  refine e_next (pc' := 48) (ls' := [_]) rfl rfl ?_
  refine e_next (pc' := 49) rfl rfl ?_
  refine e_bipush (pc' := 51) rfl rfl kb_63 ?_
  refine e_next (pc' := 52) rfl rfl ?_
  exact e_iret rfl h
theorem w268 {d : Nat} {x1 : Nat} {n_x1 : Nat} {x2 : Int32} {g : qG} {I : qI} {J : qJ} {Q : qQ} (hk_x1 : g.1 x1 = some (100, n_x1)) (hn_x1 : n_x1 < 2 ^ 31) (h : qev d 268 (5, [.ref x1, .int x2, .int (nI 0), .int (nI n_x1)], [], g, I, J) Q) : qC d 268 [.ref x1, .int x2] g I J Q := by
  show qev d 268 (0, [.ref x1, .int x2, qpad, qpad], [], g, I, J) Q
  refine e_iconst (pc' := 1) rfl rfl kc_0 ?_
  refine e_next (pc' := 2) (ls' := [_, _, _, _]) rfl rfl ?_
  refine e_next (pc' := 3) rfl rfl ?_
  refine e_alen (pc' := 4) rfl rfl hk_x1 rfl rfl ?_
  refine e_next (pc' := 5) (ls' := [_, _, _, _]) rfl rfl ?_
  exact h
theorem w268_5 {d : Nat} {x1 : Nat} {n_x1 : Nat} {i1 : Int32} {i2 : Int32} {i3 : Int32} {g : qG} {I : qI} {J : qJ} {Q : qQ} (hk_x1 : g.1 x1 = some (100, n_x1)) (hn_x1 : n_x1 < 2 ^ 31) (h : ((i3 ≤ i2 → Q none g I J) ∧ (¬ i3 ≤ i2 → ∃ k1, i2 = nI k1 ∧ k1 < n_x1 ∧ qev d 268 (5, [.ref x1, .int i1, .int (i2 + (nI 1)), .int i3], [], g, (qw I x1 k1 i1), J) Q))) : qev d 268 (5, [.ref x1, .int i1, .int i2, .int i3], [], g, I, J) Q := by
  refine e_next (pc' := 6) rfl rfl ?_
  refine e_next (pc' := 7) rfl rfl ?_
  refine e_icmp (i3 ≤ i2) (pc' := 10) rfl rfl e_d (fun hc => ?_) (fun hc => ?_)
  · replace h := h.1 hc
    exact qev_ret rfl rfl h
  · replace h := h.2 hc
    refine e_next (pc' := 11) rfl rfl ?_
    refine e_next (pc' := 12) rfl rfl ?_
    refine e_next (pc' := 13) rfl rfl ?_
    obtain ⟨k1, hi_k1, hj_k1, h⟩ := h
    refine e_iast k1 (pc' := 14) rfl rfl hk_x1 hi_k1 hj_k1 hn_x1 ?_
    refine e_iinc (pc' := 17) (ls' := [_, _, _, _]) (v := (nI 1)) rfl rfl kc_1 rfl rfl ?_
    refine e_next (pc' := 5) rfl rfl ?_
    exact h
