/-! the law: coefficient, the loop -/
section LAWL
variable {d L i : Nat} {g : qG} {I : qI} {J : qJ} {Q : qQ} {w : W8} {w5 w6 : Value}
theorem kI.bp {t : List Nat} {p M : Nat} {s : ST} {hs : List ST} {im : Option ST} {sc : SC} {rf : RF} (h : kI g I t p M s hs im sc rf) : kI (g.1, g.2.1, g.2.2.1 + 1, g.2.2.2 + 6) I t p M s hs im sc rf := by
  obtain ⟨hg, hrc, h80, hT, hR, hS, hH, hM, hC, hf⟩ := h
  refine ⟨⟨hg.1, by show 120 ≤ g.2.2.1 + 1; have := hg.2.1; omega, fun i b hi hb => ?_, hg.2.2.2⟩, hrc, h80, hT, hR, hS, hH, hM, ⟨hC.1, fun j ss hj => ?_⟩, hf⟩
  · obtain ⟨a1, a2, a3⟩ := hg.2.2.1 i b hi hb
    exact ⟨a1, by show b + 3 < g.2.2.1 + 1; omega, a3⟩
  · obtain ⟨x, n, a1, a2, a3, a4, a5, a6⟩ := hC.2 j ss hj
    exact ⟨x, n, a1, a2, by show x + 3 < g.2.2.1 + 1; omega, a4, a5, a6⟩
theorem lg_self (x : Int64) : lg_cmp x x = 0 := by
  unfold lg_cmp
  rw [if_neg (fun h => absurd h (Int64.lt_irrefl)), if_pos rfl]
theorem lw_coefficient (hI : lwI L w g I) (hL : i + 7 ≤ L) (h31 : L < 2 ^ 30) (k : ∀ g' I' J' w' w5 w6, lwI L w' g' I' → lwF g g' I I' → qev (d + 91) 270 (1330, [.ref 0, .ref 4, .ref 105, .ref 119, .int (nI i), w5, w6], [], g', I', J') Q) : qev (d + 91) 270 (437, [.ref 0, .ref 4, .ref 105, .ref 119, .int (nI i), w5, w6], [], g, I, J) Q := by
  obtain ⟨hk, hr, ok, h0⟩ := hI
  obtain ⟨t, p, M, s, hs, im, sc, rf⟩ := w
  have hk : kI g I t p M s hs im sc rf := hk
  have hr : rI I t p M s hs im sc rf := hr
  have ok : okW p M s hs im sc := ok
  have hsh : qSh g := hk.1.1
  have h120 : 120 ≤ g.2.2.1 := hk.1.2.1
  refine e_next (pc' := 438) rfl rfl ?_
  refine e_next (pc' := 439) rfl rfl ?_
  refine e_next (pc' := 441) rfl rfl ?_
  refine e_iconst (v := nI 1) (pc' := 442) rfl rfl (by decide +kernel) ?_
  refine e_next (pc' := 443) rfl rfl ?_
  refine e_sald (i + 1) (pc' := 444) rfl rfl h0 (nI_add i 1) (by omega) (by omega) ?_
  refine e_next (pc' := 445) rfl rfl ?_
  refine e_next (pc' := 447) rfl rfl ?_
  refine e_iconst (v := nI 2) (pc' := 448) rfl rfl (by decide +kernel) ?_
  refine e_next (pc' := 449) rfl rfl ?_
  refine e_sald (i + 2) (pc' := 450) rfl rfl h0 (nI_add i 2) (by omega) (by omega) ?_
  refine e_next (pc' := 451) rfl rfl ?_
  refine e_cgI (pc' := 454) rfl (e_sS (as := [_, _, _, _]) (fun _ => rfl) rfl (Nat.le_of_ble_eq_true rfl) rfl rfl (Nat.le_of_ble_eq_true rfl) (Nat.le_of_ble_eq_true rfl) rfl) ?_
  refine k_coef (d := d + 88) ok hk (hsh.k rfl) (fun r j h1 h2 h3 h4 J1 e1 => ⟨_, rfl, ?_⟩) (fun hn J1 => ⟨_, rfl, ?_⟩)
  · have h24 := ok.bd.1.1 r h1
    refine e_next (pc' := 456) rfl rfl ?_
    refine e_next (pc' := 457) rfl rfl ?_
    refine e_next (pc' := 458) rfl rfl ?_
    refine e_next (pc' := 460) rfl rfl ?_
    refine e_iconst (v := nI 1) (pc' := 461) rfl rfl (by decide +kernel) ?_
    refine e_next (pc' := 462) rfl rfl ?_
    refine e_sald (i + 1) (pc' := 463) rfl rfl h0 (nI_add i 1) (by omega) (by omega) ?_
    refine e_next (pc' := 464) rfl rfl ?_
    refine e_next (pc' := 466) rfl rfl ?_
    refine e_iconst (v := nI 2) (pc' := 467) rfl rfl (by decide +kernel) ?_
    refine e_next (pc' := 468) rfl rfl ?_
    refine e_sald (i + 2) (pc' := 469) rfl rfl h0 (nI_add i 2) (by omega) (by omega) ?_
    refine e_cgI (pc' := 472) rfl (e_sV (as := [_, _]) (fun _ => rfl) (Or.inl rfl) rfl (hsh.o rfl) rfl rfl (Nat.le_of_ble_eq_true rfl) (Nat.le_of_ble_eq_true rfl) rfl) ?_
    refine r_coef (d := d + 87) hsh ok hr (fun r2 j2 a1 a2 a3 a4 I2 hr2 F2 z2 => ⟨_, rfl, ?_⟩) (fun hn => absurd ⟨r, j, h1, h2, h3, h4⟩ hn)
    have er : r2 = r := by rw [h2, nI_eq (by omega) (by omega)] at a2; exact a2.symm
    subst er
    have ej : j2 = j := by rw [h4, nI_eq (by omega) (by omega)] at a4; exact a4.symm
    subst ej
    refine e_next (pc' := 474) rfl rfl ?_
    refine e_next (pc' := 475) rfl rfl ?_
    refine e_cpI (pc' := 478) rfl (e_sV (as := []) (fun _ => rfl) (Or.inl rfl) rfl (hsh.o rfl) rfl rfl (Nat.le_of_ble_eq_true rfl) (Nat.le_of_ble_eq_true rfl) rfl) rfl rfl rfl ?_
    refine w146 hsh ⟨_, rfl, ?_⟩
    rw [z2]
    refine e_next (pc' := 480) rfl rfl ?_
    refine e_icmp True (pc' := 483) rfl rfl (by decide +kernel) (fun _ => ?_) (fun hc => absurd trivial hc)
    refine e_next (pc' := 487) rfl rfl ?_
    refine e_if False (pc' := 490) rfl rfl (by decide +kernel) (fun hc => hc.elim) (fun _ => ?_)
    refine e_next (pc' := 491) rfl rfl ?_
    refine e_iconst (v := nI 0) (pc' := 492) rfl rfl (by decide +kernel) ?_
    refine e_lald 0 (pc' := 493) rfl rfl (hsh.k rfl) rfl (by omega) (by omega) ?_
    refine e_next (pc' := 495) rfl rfl ?_
    refine e_next (pc' := 496) rfl rfl ?_
    refine e_next (pc' := 497) rfl rfl ?_
    rw [e1, lg_self]
    refine e_if True (pc' := 500) rfl rfl (by decide +kernel) (fun _ => ?_) (fun hc => absurd trivial hc)
    refine e_next (pc' := 1330) rfl rfl ?_
    have z := lw_fin0 (w' := (t, p, M, s, hs, im, sc, rf)) h0 h120 hk (kFr.refl g I) hr2 F2 ok
    exact k g I2 J1 _ _ _ z.1 z.2
  · have hk1 := hk.bp
    have hsh1 := hk1.1.1
    refine e_next (pc' := 456) rfl rfl ?_
    refine e_next (pc' := 457) rfl rfl ?_
    refine e_next (pc' := 458) rfl rfl ?_
    refine e_next (pc' := 460) rfl rfl ?_
    refine e_iconst (v := nI 1) (pc' := 461) rfl rfl (by decide +kernel) ?_
    refine e_next (pc' := 462) rfl rfl ?_
    refine e_sald (i + 1) (pc' := 463) rfl rfl (show (g.1, g.2.1, g.2.2.1 + 1, g.2.2.2 + 6).1 0 = some (110, L) from h0) (nI_add i 1) (by omega) (by omega) ?_
    refine e_next (pc' := 464) rfl rfl ?_
    refine e_next (pc' := 466) rfl rfl ?_
    refine e_iconst (v := nI 2) (pc' := 467) rfl rfl (by decide +kernel) ?_
    refine e_next (pc' := 468) rfl rfl ?_
    refine e_sald (i + 2) (pc' := 469) rfl rfl (show (g.1, g.2.1, g.2.2.1 + 1, g.2.2.2 + 6).1 0 = some (110, L) from h0) (nI_add i 2) (by omega) (by omega) ?_
    refine e_cgI (pc' := 472) rfl (e_sV (as := [_, _]) (fun _ => rfl) (Or.inl rfl) rfl (hsh1.o rfl) rfl rfl (Nat.le_of_ble_eq_true rfl) (Nat.le_of_ble_eq_true rfl) rfl) ?_
    refine r_coef (d := d + 87) hsh1 ok hr (fun r2 j2 a1 a2 a3 a4 => absurd ⟨r2, j2, a1, a2, a3, a4⟩ hn) (fun _ I2 hr2 F2 z2 => ⟨_, rfl, ?_⟩)
    refine e_next (pc' := 474) rfl rfl ?_
    refine e_next (pc' := 475) rfl rfl ?_
    refine e_cpI (pc' := 478) rfl (e_sV (as := []) (fun _ => rfl) (Or.inl rfl) rfl (hsh1.o rfl) rfl rfl (Nat.le_of_ble_eq_true rfl) (Nat.le_of_ble_eq_true rfl) rfl) rfl rfl rfl ?_
    refine w146 hsh1 ⟨_, rfl, ?_⟩
    rw [z2]
    refine e_next (pc' := 480) rfl rfl ?_
    refine e_icmp True (pc' := 483) rfl rfl (by decide +kernel) (fun _ => ?_) (fun hc => absurd trivial hc)
    refine e_next (pc' := 487) rfl rfl ?_
    refine e_if True (pc' := 490) rfl rfl (by decide +kernel) (fun _ => ?_) (fun hc => absurd trivial hc)
    refine e_next (pc' := 1330) rfl rfl ?_
    have gg : kFr g (g.1, g.2.1, g.2.2.1 + 1, g.2.2.2 + 6) I I := ⟨fun _ _ => rfl, ⟨Nat.le_succ _, fun _ _ => rfl⟩, by show g.2.2.1 + 1 ≤ _; omega, by show g.2.2.2 + 6 ≤ _; omega⟩
    have z := lw_fin0 (w' := (t, p, M, s, hs, im, sc, rf)) h0 h120 hk1 gg hr2 F2 ok
    exact k _ I2 J1 _ _ _ z.1 z.2
theorem and63 (r : Int32) : ∃ n, n < 64 ∧ r &&& nI 63 = nI n := by
  obtain ⟨n, h, rfl⟩ := nI_all r
  exact ⟨n % 2 ^ 6, Nat.mod_lt _ (by decide), pk_andN h 6 (by decide +kernel)⟩
theorem lw_loop (h31 : L ≤ 3584) {B1 B2 : Nat} (kk : ∀ (g : qG) (I : qI) (J : qJ), g.2.2.1 ≤ B1 → g.2.2.2 ≤ B2 → Q (some (.int (nI 1))) g I J) : ∀ (f i : Nat) (g : qG) (I : qI) (J : qJ) (w : W8) (w5 w6 : Value), L ≤ i + 7 * f + 6 → i < 4000 → lwI L w g I → g.2.2.1 + 160 * f ≤ B1 → g.2.2.2 + 10560 * f ≤ B2 → qev (d + 91) 270 (23, [.ref 0, .ref 4, .ref 105, .ref 119, .int (nI i), w5, w6], [], g, I, J) Q := by
  intro f
  induction f with
  | zero =>
    intro i g I J w w5 w6 hf hi4 hI b1 b2
    refine e_next (pc' := 25) rfl rfl ?_
    refine e_next (pc' := 26) rfl rfl ?_
    refine e_alen (n := L) (v := nI L) (pc' := 27) rfl rfl hI.2.2.2 rfl rfl ?_
    refine e_bipush (v := nI 7) (pc' := 29) rfl rfl (by decide +kernel) ?_
    refine e_next (pc' := 30) rfl rfl ?_
    refine e_icmp (nI L - nI 7 < nI i) (pc' := 33) rfl rfl e_d (fun _ => ?_) (fun hc => absurd ?_ hc)
    · refine e_iconst (v := nI 1) (pc' := 1337) rfl rfl (by decide +kernel) ?_
      exact e_zret rfl (Or.inr (by decide +kernel)) (kk g I J (by omega) (by omega))
    · rw [nI_iI, nI_iI, nI_iI, iI_sub, iI_lt (by omega) (by omega)]; omega
  | succ f ih =>
    intro i g I J w w5 w6 hf hi4 hI b1 b2
    refine e_next (pc' := 25) rfl rfl ?_
    refine e_next (pc' := 26) rfl rfl ?_
    refine e_alen (n := L) (v := nI L) (pc' := 27) rfl rfl hI.2.2.2 rfl rfl ?_
    refine e_bipush (v := nI 7) (pc' := 29) rfl rfl (by decide +kernel) ?_
    refine e_next (pc' := 30) rfl rfl ?_
    refine e_icmp (nI L - nI 7 < nI i) (pc' := 33) rfl rfl e_d (fun _ => ?_) (fun hc => ?_)
    · refine e_iconst (v := nI 1) (pc' := 1337) rfl rfl (by decide +kernel) ?_
      exact e_zret rfl (Or.inr (by decide +kernel)) (kk g I J (by omega) (by omega))
    · rw [nI_iI, nI_iI, nI_iI, iI_sub, iI_lt (by omega) (by omega)] at hc
      have hL : i + 7 ≤ L := by omega
      have k : ∀ (g1 : qG) (I1 : qI) (J1 : qJ) (w1 : W8) (w5 w6 : Value), lwI L w1 g1 I1 → lwF g g1 I I1 → qev (d + 91) 270 (1330, [.ref 0, .ref 4, .ref 105, .ref 119, .int (nI i), w5, w6], [], g1, I1, J1) Q := fun g1 I1 J1 w1 w5 w6 h1 F => by
        refine e_iinc (pc' := 1333) (v := nI 7) (x := nI i) rfl rfl (by decide +kernel) rfl rfl ?_
        refine e_next (pc' := 23) rfl rfl ?_
        rw [nI_add]
        exact ih (i + 7) g1 I1 J1 w1 w5 w6 (by omega) (by omega) h1 (by have := F.2.1; omega) (by have := F.2.2; omega)
      refine e_next (pc' := 34) rfl rfl ?_
      refine e_next (pc' := 36) rfl rfl ?_
      refine e_sald i (pc' := 37) rfl rfl hI.2.2.2 rfl (by omega) (by omega) ?_
      refine e_bipush (v := nI 63) (pc' := 39) rfl rfl (by decide +kernel) ?_
      refine e_next (pc' := 40) rfl rfl ?_
      obtain ⟨n, hn, en⟩ := and63 (I 0 i)
      have h30 : L < 2 ^ 30 := by omega
      by_cases h33 : n < 33
      · have hd : n = 0 ∨ n = 1 ∨ n = 2 ∨ n = 3 ∨ n = 4 ∨ n = 5 ∨ n = 6 ∨ n = 7 ∨ n = 8 ∨ n = 9 ∨ n = 10 ∨ n = 11 ∨ n = 12 ∨ n = 13 ∨ n = 14 ∨ n = 15 ∨ n = 16 ∨ n = 17 ∨ n = 18 ∨ n = 19 ∨ n = 20 ∨ n = 21 ∨ n = 22 ∨ n = 23 ∨ n = 24 ∨ n = 25 ∨ n = 26 ∨ n = 27 ∨ n = 28 ∨ n = 29 ∨ n = 30 ∨ n = 31 ∨ n = 32 := by omega
        rcases hd with rfl | rfl | rfl | rfl | rfl | rfl | rfl | rfl | rfl | rfl | rfl | rfl | rfl | rfl | rfl | rfl | rfl | rfl | rfl | rfl | rfl | rfl | rfl | rfl | rfl | rfl | rfl | rfl | rfl | rfl | rfl | rfl | rfl
        · exact e_tswI 0 (t := 188) rfl en (by omega) rfl (lw_feed hI hL h30 (fun g1 I1 J1 w1 h1 F => k g1 I1 J1 w1 w5 w6 h1 F))
        · exact e_tswI 1 (t := 261) rfl en (by omega) rfl (lw_end hI hL h30 (fun g1 I1 J1 w1 h1 F => k g1 I1 J1 w1 w5 w6 h1 F))
        · exact e_tswI 2 (t := 286) rfl en (by omega) rfl (lw_fault hI hL h30 (fun g1 I1 J1 w1 h1 F => k g1 I1 J1 w1 w5 w6 h1 F))
        · exact e_tswI 3 (t := 311) rfl en (by omega) rfl (lw_text hI hL h30 (fun g1 I1 J1 w1 h1 F => k g1 I1 J1 w1 w5 w6 h1 F))
        · exact e_tswI 4 (t := 336) rfl en (by omega) rfl (lw_rule hI hL h30 (fun g1 I1 J1 w1 h1 F => k g1 I1 J1 w1 w5 w6 h1 F))
        · exact e_tswI 5 (t := 361) rfl en (by omega) rfl (lw_step hI hL h30 (fun g1 I1 J1 w1 h1 F => k g1 I1 J1 w1 w5 w6 h1 F))
        · exact e_tswI 6 (t := 374) rfl en (by omega) rfl (lw_would hI hL h30 (fun g1 I1 J1 w1 h1 F => k g1 I1 J1 w1 w5 w6 h1 F))
        · exact e_tswI 7 (t := 399) rfl en (by omega) rfl (lw_why hI hL h30 (fun g1 I1 J1 w1 h1 F => k g1 I1 J1 w1 w5 w6 h1 F))
        · exact e_tswI 8 (t := 412) rfl en (by omega) rfl (lw_known hI hL h30 (fun g1 I1 J1 w1 h1 F => k g1 I1 J1 w1 w5 w6 h1 F))
        · exact e_tswI 9 (t := 437) rfl en (by omega) rfl (lw_coefficient hI hL h30 k)
        · exact e_tswI 10 (t := 505) rfl en (by omega) rfl (lw_order hI hL h30 (fun g1 I1 J1 w1 h1 F => k g1 I1 J1 w1 w5 w6 h1 F))
        · exact e_tswI 11 (t := 530) rfl en (by omega) rfl (lw_cut hI hL h30 (fun g1 I1 J1 w1 h1 F => k g1 I1 J1 w1 w5 w6 h1 F))
        · exact e_tswI 12 (t := 567) rfl en (by omega) rfl (lw_drop hI hL h30 (fun g1 I1 J1 w1 h1 F => k g1 I1 J1 w1 w5 w6 h1 F))
        · exact e_tswI 13 (t := 592) rfl en (by omega) rfl (lw_swap hI hL h30 (fun g1 I1 J1 w1 h1 F => k g1 I1 J1 w1 w5 w6 h1 F))
        · exact e_tswI 14 (t := 629) rfl en (by omega) rfl (lw_perform hI hL h30 (fun g1 I1 J1 w1 h1 F => k g1 I1 J1 w1 w5 w6 h1 F))
        · exact e_tswI 15 (t := 654) rfl en (by omega) rfl (lw_years hI hL h30 (fun g1 I1 J1 w1 h1 F => k g1 I1 J1 w1 w5 w6 h1 F))
        · exact e_tswI 16 (t := 723) rfl en (by omega) rfl (lw_status hI hL h30 (fun g1 I1 J1 w1 h1 F => k g1 I1 J1 w1 w5 w6 h1 F))
        · exact e_tswI 17 (t := 748) rfl en (by omega) rfl (lw_undo hI hL h30 (fun g1 I1 J1 w1 h1 F => k g1 I1 J1 w1 w5 w6 h1 F))
        · exact e_tswI 18 (t := 761) rfl en (by omega) rfl (lw_log hI hL h30 (fun g1 I1 J1 w1 h1 F => k g1 I1 J1 w1 w5 w6 h1 F))
        · exact e_tswI 19 (t := 798) rfl en (by omega) rfl (lw_alike hI hL h30 (fun g1 I1 J1 w1 h1 F => k g1 I1 J1 w1 w5 w6 h1 F))
        · exact e_tswI 20 (t := 835) rfl en (by omega) rfl (lw_value hI hL h30 (fun g1 I1 J1 w1 h1 F => k g1 I1 J1 w1 w5 w6 h1 F))
        · exact e_tswI 21 (t := 872) rfl en (by omega) rfl (lw_newton hI hL h30 (fun g1 I1 J1 w1 h1 F => k g1 I1 J1 w1 w5 w6 h1 F))
        · exact e_tswI 22 (t := 921) rfl en (by omega) rfl (lw_solve hI hL h30 (fun g1 I1 J1 w1 h1 F => k g1 I1 J1 w1 w5 w6 h1 F))
        · exact e_tswI 23 (t := 1008) rfl en (by omega) rfl (lw_starts hI hL h30 (fun g1 I1 J1 w1 h1 F => k g1 I1 J1 w1 w5 w6 h1 F))
        · exact e_tswI 24 (t := 1081) rfl en (by omega) rfl (lw_recur hI hL h30 (fun g1 I1 J1 w1 h1 F => k g1 I1 J1 w1 w5 w6 h1 F))
        · exact e_tswI 25 (t := 1118) rfl en (by omega) rfl (lw_one hI hL h30 (fun g1 I1 J1 w1 h1 F => k g1 I1 J1 w1 w5 w6 h1 F))
        · exact e_tswI 26 (t := 1143) rfl en (by omega) rfl (lw_sums hI hL h30 (fun g1 I1 J1 w1 h1 F => k g1 I1 J1 w1 w5 w6 h1 F))
        · exact e_tswI 27 (t := 1180) rfl en (by omega) rfl (lw_run hI hL h30 (fun g1 I1 J1 w1 h1 F => k g1 I1 J1 w1 w5 w6 h1 F))
        · exact e_tswI 28 (t := 1217) rfl en (by omega) rfl (lw_target hI hL h30 (fun g1 I1 J1 w1 h1 F => k g1 I1 J1 w1 w5 w6 h1 F))
        · exact e_tswI 29 (t := 1254) rfl en (by omega) rfl (lw_most hI hL h30 (fun g1 I1 J1 w1 h1 F => k g1 I1 J1 w1 w5 w6 h1 F))
        · exact e_tswI 30 (t := 1279) rfl en (by omega) rfl (lw_image hI hL h30 (fun g1 I1 J1 w1 h1 F => k g1 I1 J1 w1 w5 w6 h1 F))
        · exact e_tswI 31 (t := 1292) rfl en (by omega) rfl (lw_back hI hL h30 (fun g1 I1 J1 w1 h1 F => k g1 I1 J1 w1 w5 w6 h1 F))
        · exact e_tswI 32 (t := 1305) rfl en (by omega) rfl (lw_count hI hL h30 (fun g1 I1 J1 w1 h1 F => k g1 I1 J1 w1 w5 w6 h1 F))
      · refine e_tswO (lo := 0) (hi := 32) (t := 1330) rfl (fun q q1 q2 e => ?_) (by omega) rfl (k g I J w w5 w6 hI ⟨rfl, by omega, by omega⟩)
        have e : I 0 i &&& nI 63 = nI q := e
        rw [en, nI_eq (by omega) (by omega)] at e
        omega
end LAWL
