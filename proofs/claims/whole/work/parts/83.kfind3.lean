/-! RECURRENCES: the class's find, whole -/
section KFIND3
variable {d : Nat} {g : qG} {I : qI} {J : qJ} {Q : qQ} {p M n x bb bs : Nat} {c : Nat → Int}
theorem k_find (hs : qSh g) (hx : qSer g x) (hx8 : x < 83 ∨ 86 < x) (hxx : x + 1 < 83 ∨ 86 < x + 1) (hg : kRc g bb bs) (hR : kR I p M) (hS : kS I x n c) (ho : okS p n c)
    (kk : ∀ g' I' L C, gE g g' → qSh g' → (∃ bb bs, kRc g' bb bs) → aF I I' → gG p c n L C → (∀ M E, gG p c n M E → L ≤ M) → L ≤ n → kAr I' 84 C → (∀ i, 0 ≤ C i ∧ C i < p) → Q (some (.int (nI L))) g' I' J) : qC (d + 1) 69 [.ref 83, .ref x, .ref 12] g I J Q := by
  have hp2 := hR.2.2.1.two
  have hbb : bb ≠ 84 ∧ bs ≠ 84 ∧ bb ≠ bs ∧ (bb = 85 ∨ bb = 86) ∧ (bs = 85 ∨ bs = 86) := by have := hg.2.2.2.2.2.2; omega
  show qev (d + 1) 69 (0, [.ref 83, .ref x, .ref 12, qpad, qpad, qpad, qpad, qpad, qpad, qpad, qpad, qpad], [], g, I, J) Q
  refine e_next (pc' := 1) rfl rfl ?_
  refine e_getI (pc' := 4) rfl (Or.inl rfl) rfl (hs.o rfl) ?_
  rw [hR.1]
  refine e_next (pc' := 5) (ls' := [_, _, _, _, _, _, _, _, _, _, _, _]) rfl rfl ?_
  refine e_next (pc' := 6) rfl rfl ?_
  refine e_getR (pc' := 9) rfl rfl (hs.o rfl) hg.1 ?_
  refine e_iconst (pc' := 10) rfl rfl kc_0 ?_
  refine e_ciV (pc' := 13) rfl (e_sS (as := [_, _]) (fun _ => rfl) rfl (Nat.le_of_ble_eq_true rfl) rfl rfl (Nat.le_of_ble_eq_true rfl) (Nat.le_of_ble_eq_true rfl) rfl) rfl rfl (k_fill hg.2.2.2.1 (by decide) (fun I1 A1 => ⟨rfl, ?_⟩))
  refine e_next (pc' := 14) rfl rfl ?_
  refine e_getR (pc' := 17) rfl rfl (hs.o rfl) hg.2.1 ?_
  refine e_iconst (pc' := 18) rfl rfl kc_0 ?_
  refine e_ciV (pc' := 21) rfl (e_sS (as := [_, _]) (fun _ => rfl) rfl (Nat.le_of_ble_eq_true rfl) rfl rfl (Nat.le_of_ble_eq_true rfl) (Nat.le_of_ble_eq_true rfl) rfl) rfl rfl (k_fill hg.2.2.2.2.1 (by decide) (fun I2 A2 => ⟨rfl, ?_⟩))
  refine e_next (pc' := 22) rfl rfl ?_
  refine e_getR (pc' := 25) rfl rfl (hs.o rfl) hg.1 ?_
  refine e_iconst (pc' := 26) rfl rfl kc_0 ?_
  refine e_iconst (pc' := 27) rfl rfl kc_1 ?_
  refine e_iast 0 (pc' := 28) rfl rfl hg.2.2.2.1 rfl (by omega) (by decide) ?_
  refine e_next (pc' := 29) rfl rfl ?_
  refine e_getR (pc' := 32) rfl rfl (hs.o rfl) hg.2.1 ?_
  refine e_iconst (pc' := 33) rfl rfl kc_0 ?_
  refine e_iconst (pc' := 34) rfl rfl kc_1 ?_
  refine e_iast 0 (pc' := 35) rfl rfl hg.2.2.2.2.1 rfl (by omega) (by decide) ?_
  refine e_iconst (pc' := 36) rfl rfl kc_0 ?_
  refine e_next (pc' := 38) (ls' := [_, _, _, _, _, _, _, _, _, _, _, _]) rfl rfl ?_
  refine e_iconst (pc' := 39) rfl rfl kc_1 ?_
  refine e_next (pc' := 41) (ls' := [_, _, _, _, _, _, _, _, _, _, _, _]) rfl rfl ?_
  refine e_iconst (pc' := 42) rfl rfl kc_1 ?_
  refine e_next (pc' := 44) (ls' := [_, _, _, _, _, _, _, _, _, _, _, _]) rfl rfl ?_
  refine e_iconst (pc' := 45) rfl rfl kc_0 ?_
  refine e_next (pc' := 47) (ls' := [_, _, _, _, _, _, _, _, _, _, _, _]) rfl rfl ?_
  generalize hI3 : qw (qw I2 84 0 (nI 1)) bb 0 (nI 1) = I3
  have o3 : ∀ q, q ≠ 84 → q ≠ bb → I3 q = I q := fun q q1 q2 => by rw [← hI3, zu_a q2, zu_a q1, A2.1 q q2, A1.1 q q1]
  have a3 : kAr I3 84 p1 := fun q hq => by
    rw [← hI3, zu_a (Ne.symm hbb.1)]
    by_cases e : q = 0
    · rw [e, zu_s]; exact nI_iI 1
    · rw [zu_k e, A2.1 84 (Ne.symm hbb.1), A1.2.1 q hq, show p1 q = 0 from if_neg e]; exact nI_iI 0
  have b3 : kAr I3 bb p1 := fun q hq => by
    rw [← hI3]
    by_cases e : q = 0
    · rw [e, zu_s]; exact nI_iI 1
    · rw [zu_k e, zu_a hbb.1, A2.2.1 q hq, show p1 q = 0 from if_neg e]; exact nI_iI 0
  have pr1 : ∀ i, 0 ≤ p1 i ∧ p1 i < (p : Int) := fun i => by
    by_cases e : i = 0
    · rw [show p1 i = 1 from if_pos e]; omega
    · rw [show p1 i = 0 from if_neg e]; omega
  have F3 : aF I I3 := fun q q1 q2 q3 => o3 q q1 (by omega)
  have h := k_find_l (d := d) (J := J) (Q := Q) (M := M) (g0 := g) (I0 := I) hx8 hxx ho.1 ho kk n 0 0 1 bb bs 1 p1 p1 g I3 qpad qpad qpad qpad (by omega) (gE.refl g) hs hx hg F3 ⟨by rw [o3 12 (by omega) (by omega)]; exact hR.1, by rw [o3 12 (by omega) (by omega)]; exact hR.2.1, hR.2.2⟩ ⟨by rw [o3 x (by omega) (by omega)]; exact hS.1, fun i hi => by rw [o3 (x + 1) (by omega) (by omega)]; exact hS.2 i hi⟩ (bm_0 p c) a3 b3 pr1 pr1 (by omega)
  rw [show iI 1 = nI 1 from (nI_iI 1).symm] at h
  exact h
end KFIND3
