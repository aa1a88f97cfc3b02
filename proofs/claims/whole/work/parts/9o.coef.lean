/-! calls: coefficient, which may throw -/
section COEFS
variable {d : Nat} {g g' : qG} {I I' : qI} {J J' : qJ} {Q : qQ} {t : List Nat} {p M : Nat} {s s' : ST} {hs hs' : List ST} {im im' : Option ST} {sc : SC} {rf : RF} {x1 x2 : Int32}
/-- a call that may throw, in the law's own method -/
theorem qev_callC {pc : Nat} {ls st : List Value} {x : qE} {c pc' : Nat} {as rest : List Value} (hx : qP 269 pc = some x) (hs : qstep x pc ls st g I J = some (.inr (.inr (c, as, pc', rest))))
    (k : qC d c as g I J (fun v g' I' J' => (qthr v = false ∧ qev (d + 1) 269 (pc', ls, v.toList ++ rest, g', I', J') Q) ∨ (qthr v = true ∧ qev (d + 1) 269 (13, ls, [.ref g'.2.2.1], (g'.1, g'.2.1, g'.2.2.1 + 1, g'.2.2.2 + 6), I', J') Q))) : qev (d + 1) 269 (pc, ls, st, g, I, J) Q := by
  obtain ⟨n1, v1, g1, I1, J1, h1, ⟨ht, n2, v, g', I', J', h2, h3⟩ | ⟨ht, n2, v, g', I', J', h2, h3⟩⟩ := k
  · refine ⟨n1 + n2 + 1, v, g', I', J', ?_, h3⟩
    rw [qrun_s, hx]
    dsimp only
    rw [hs]
    dsimp only
    rw [qrun_mono h1 n2]
    dsimp only
    rw [ht]
    dsimp only
    rw [Nat.add_comm n1 n2]
    exact qrun_mono h2 n1
  · refine ⟨n1 + n2 + 1, v, g', I', J', ?_, h3⟩
    rw [qrun_s, hx]
    dsimp only
    rw [hs]
    dsimp only
    rw [qrun_mono h1 n2]
    dsimp only
    rw [ht]
    dsimp only
    rw [Nat.add_comm n1 n2]
    exact qrun_mono h2 n1
def cfV (s : ST) (x1 x2 : Int32) : Prop := ∃ r i, r < 8 ∧ x1 = nI r ∧ i < (s.1 r).1 ∧ x2 = nI i
theorem k_coef0 (ok : okW p M s hs im sc) (h : kI g I t p M s hs im sc rf) (k1 : ∀ r i, r < 8 → x1 = nI r → i < (s.1 r).1 → x2 = nI i → Q (some (.int (iI ((s.1 r).2 i)))) g I J) (k0 : ¬ cfV s x1 x2 → Q (some (.retAddr 1)) g I J) : qC (d + 1) 108 [.ref 4, .int x1, .int x2] g I J Q := by
  have hsh := h.1.1
  have thr : ¬ cfV s x1 x2 → qev (d + 1) 108 (13, [.ref 4, .int x1, .int x2], [], g, I, J) Q := fun hn => qev_ret rfl rfl (k0 hn)
  show qev (d + 1) 108 (0, [.ref 4, .int x1, .int x2], [], g, I, J) Q
  refine e_next (pc' := 1) rfl rfl ?_
  refine e_if (x2 < 0) (pc' := 4) rfl rfl e_d (fun hc => ?_) (fun hc => ?_)
  · refine thr (fun ⟨r, i, h1, h2, h3, h4⟩ => ?_)
    have := ok.bd.1.1 r h1
    rw [h4] at hc
    exact absurd hc (nI_pos (by omega))
  · refine e_next (pc' := 5) rfl rfl ?_
    refine e_next (pc' := 6) rfl rfl ?_
    refine e_next (pc' := 7) rfl rfl ?_
    refine e_cpI (pc' := 10) rfl (e_sV (as := [_]) (fun _ => rfl) (Or.inl rfl) rfl (hsh.o rfl) rfl rfl (Nat.le_of_ble_eq_true rfl) (Nat.le_of_ble_eq_true rfl) rfl) rfl rfl rfl ?_
    refine k_len hsh h.2.2.2.2.2.1.1 ⟨_, rfl, ?_⟩
    refine e_icmp (x2 < nI (lnr s.1 x1)) (pc' := 13) rfl rfl e_d (fun hc2 => ?_) (fun hc2 => ?_)
    · by_cases hz : lnr s.1 x1 = 0
      · rw [hz, nI_0] at hc2; exact absurd hc2 hc
      · obtain ⟨r, hr, rfl, hn, hp, ho, hM, h24⟩ := ok.full hz
        rw [lnr_at hr] at hc2
        obtain ⟨i, hi, rfl⟩ : ∃ i, i < (s.1 r).1 ∧ x2 = nI i := by
          rcases cls x2 (s.1 r).1 (by omega) with h9 | h9
          · exact h9
          · rcases out_of h9 (by omega) with h8 | h8
            · exact absurd h8 hc
            · exact absurd h8 (Int32.not_le.mpr hc2)
        refine e_next (pc' := 24) rfl rfl ?_
        refine e_getR (w := 89) (pc' := 27) rfl rfl (hsh.o rfl) (hsh.a rfl) ?_
        refine e_next (pc' := 28) rfl rfl ?_
        refine e_next (pc' := 29) rfl rfl ?_
        refine e_cpI (pc' := 32) rfl (e_sV (as := [_, _]) (fun _ => rfl) (Or.inl rfl) rfl (hsh.o rfl) rfl rfl (Nat.le_of_ble_eq_true rfl) (Nat.le_of_ble_eq_true rfl) rfl) rfl rfl rfl ?_
        refine k_cell (hsh.sta rfl (by omega)) h.2.2.2.2.2.1.1 hr hi h24 rfl rfl ⟨_, rfl, ?_⟩
        exact e_iret rfl (k1 r i hr rfl hi rfl)
    · refine thr (fun ⟨r, i, h1, h2, h3, h4⟩ => hc2 ?_)
      have := ok.bd.1.1 r h1
      rw [h2, h4, lnr_at h1, nI_ltI (by omega) (by omega)]
      exact h3
theorem k_coef (ok : okW p M s hs im sc) (h : kI g I t p M s hs im sc rf) (hk : g.1 119 = some (102, 1)) (k1 : ∀ r i, r < 8 → x1 = nI r → i < (s.1 r).1 → x2 = nI i → ∀ J', J' 119 0 = Int32.toInt64 (iI ((s.1 r).2 i)) → Q (some (.int (nI 0))) g I J') (k0 : ¬ cfV s x1 x2 → ∀ J', Q (some (.int (nI 1))) (g.1, g.2.1, g.2.2.1 + 1, g.2.2.2 + 6) I J') : qC (d + 2) 269 [.ref 4, .int x1, .int x2, .ref 119] g I J Q := by
  have hsh := h.1.1
  show qev (d + 2) 269 (0, [.ref 4, .int x1, .int x2, .ref 119, qpad], [], g, I, J) Q
  refine e_next (pc' := 1) rfl rfl ?_
  refine e_iconst (pc' := 2) rfl rfl kc_0 ?_
  refine e_next (pc' := 3) rfl rfl ?_
  refine e_next (pc' := 4) rfl rfl ?_
  refine e_next (pc' := 5) rfl rfl ?_
  refine qev_callC (pc' := 8) rfl (e_sV (as := [_, _]) (fun _ => rfl) (Or.inl rfl) rfl (hsh.o rfl) rfl rfl (Nat.le_of_ble_eq_true rfl) (Nat.le_of_ble_eq_true rfl) rfl) ?_
  refine k_coef0 ok h (fun r i h1 h2 h3 h4 => Or.inl ⟨rfl, ?_⟩) (fun hn => Or.inr ⟨rfl, ?_⟩)
  · refine e_next (pc' := 9) rfl rfl ?_
    refine e_last 0 (pc' := 10) rfl rfl hk rfl (by omega) (by omega) ?_
    refine e_next (pc' := 17) rfl rfl ?_
    refine e_iconst (pc' := 18) rfl rfl kc_0 ?_
    exact e_iret rfl (k1 r i h1 h2 h3 h4 _ zu_s)
  · refine e_next (pc' := 15) rfl rfl ?_
    refine e_iconst (pc' := 16) rfl rfl kc_1 ?_
    exact e_iret rfl (k0 hn J)
theorem r_coef (hsh : qSh g) (ok : okW p M s hs im sc) (h : rI I t p M s hs im sc rf) (k1 : ∀ r i, r < 8 → x1 = nI r → i < (s.1 r).1 → x2 = nI i → ∀ I', rI I' t p M s hs im sc rf → rFw I I' → I' 105 0 = nI 0 → Q (some (.int (iI ((s.1 r).2 i)))) g I' J) (k0 : ¬ cfV s x1 x2 → ∀ I', rI I' t p M s hs im sc rf → rFw I I' → I' 105 0 = nI 1 → Q (some (.int (nI 0))) g I' J) : qC (d + 3) 224 [.ref 105, .int x1, .int x2] g I J Q := by
  have h2 := h.keep ok rKp.th
  have kt : ∀ v, rKp I (qw (qw I 105 0 (nI 0)) 105 0 v) := fun v => ⟨fun b b1 _ _ _ _ _ _ _ _ => by rw [zu_a b1, zu_a b1], fun f hf => by rw [zu_k (by omega), zu_k (by omega)], fun j _ => ⟨by rw [zu_a (by omega), zu_a (by omega)], by rw [zu_a (by omega), zu_a (by omega)]⟩, fun j _ => by rw [zu_a (by omega), zu_a (by omega)], fun j _ => by rw [zu_a (by omega), zu_a (by omega)]⟩
  have k0' : ¬ cfV s x1 x2 → Q (some (.int (nI 0))) g (qw (qw I 105 0 (nI 0)) 105 0 (nI 1)) J := fun hn => k0 hn _ (h.keep ok (kt _)) (kt _).fr zu_s
  refine w224 hsh (r_heldI hsh ok h2 (fun hz => ⟨_, rfl, br1 ?_⟩) (fun hz => ⟨_, rfl, br0 (k0' (fun ⟨r, i, h1, h3, h4, h5⟩ => ?_))⟩))
  · obtain ⟨r, hr, rfl, hn, hp, ho, hM, h24⟩ := ok.full hz
    have hG := h2.2.2.1.1 r hr
    rw [Nat.zero_add] at hG
    refine ⟨25 * r, pk_mul 25 r, by omega, ?_⟩
    rw [hG.1, pk_sub (by omega), nI_lN (by omega)]
    refine r_in rfl (by omega) (fun i hi e => ⟨_, rfl, br1 ⟨25 * r + 1 + i, by rw [e, pk_mul, nI_add, nI_add], by omega, ?_⟩⟩) (fun h0 => ⟨_, rfl, br0 (k0' (fun ⟨q, i, h1, h3, h4, h5⟩ => ?_))⟩)
    · rw [hG.2 i (by omega)]
      exact k1 r i hr rfl (by omega) e _ h2 rKp.th.fr zu_s
    · have e : q = r := by rw [nI_eq (by omega) (by omega)] at h3; exact h3.symm
      subst e
      exact h0 i (by omega) h5
  · rw [h3, lnr_at h1] at hz; omega
end COEFS
