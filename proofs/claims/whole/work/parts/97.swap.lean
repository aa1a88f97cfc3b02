/-! calls: swap, undo, image, back, log -/
section SWAPS
variable {d : Nat} {g : qG} {I : qI} {J : qJ} {Q : qQ} {t : List Nat} {p M : Nat} {s : ST} {hs : List ST} {im : Option ST} {sc : SC} {rf : RF} {x x1 x2 : Int32} {regs : Nat → Sr} {a r q : Nat}
def swS (s : ST) (r q : Nat) : ST := (swp s.1 r q, nt s.2 (3, r, (s.1 q).1))
theorem swp_ok {r q : Nat} (h : okG p M regs) (hr : r < 8) (hq : q < 8) : okG p M (swp regs r q) := fun i hi => by
  unfold swp
  split
  · exact h q hq
  · split
    · exact h r hr
    · exact h i hi
theorem swp_at (regs : Nat → Sr) (r q : Nat) : swp regs r q r = regs q := if_pos rfl
theorem k_swp (ok : okW p M s hs im sc) (hp : p ≠ 0) (h : kI g I t p M s hs im sc rf) (hr : r < 8) (hq : q < 8) (hne : r ≠ q) (k : ∀ g' I' J', kI g' I' t p M (swS s r q) (pushH hs s) im sc rf → kFr g g' I I' → Q (some (.int (nI (s.1 q).1))) g' I' J') : qC (d + 1) 39 [.ref 101, .ref 89] g I J (fun v g1 I4 J1 => v = none ∧ qSh g1 ∧ qC (d + 1) 84 [.ref 89, .int (nI r), .int (nI q)] g1 I4 J1 (fun v _ I5 _ => v = none ∧ qC (d + 1) 85 [.ref 89, .int (nI 3), .int (nI r)] g1 I5 J1 (fun v _ I6 _ => v = none ∧ ∃ k1, nI r = nI k1 ∧ k1 < 8 ∧ Q (some (.int (I6 90 k1))) g1 I6 J1))) := by
  have hR := ok.ring hp
  have hb := swp_ok hR.2.2.1.1 hr hq
  refine k_kept ok h (fun g1 I1 J1 h1 F => ⟨rfl, h1.1.1, ?_⟩)
  have sta := h1.1.1.sta (a := 89) rfl (by omega)
  refine k_exch sta h1.2.2.2.2.2.1 ok.bd.1.1 hr hq hne (fun I2 S2 f2 => ⟨rfl, ?_⟩)
  refine k_note sta S2 hR.2.2.1.2 hr (by omega) ((hb r hr).2.1) (fun I3 S3 f3 => ⟨rfl, r, rfl, hr, ?_⟩)
  dsimp only at S3
  rw [swp_at] at S3
  have e := (S3.1 r hr).1
  dsimp only at e
  rw [swp_at] at e
  rw [e]
  have f4 : ∀ b, (b < 89 ∨ 92 < b) → I3 b = I1 b := fun b hb => by rw [f3 b (by omega) (by omega), f2 b (by omega) (by omega)]
  exact k g1 I3 J1 (h1.st f4 S3) (F.fr.then (fun b hb => f4 b (by omega)))
theorem r_swp_l (hsh : qSh g) (hr : r < 8) (hq : q < 8) (hne : r ≠ q) (k : ∀ I', (∀ b, b ≠ 111 → I' b = I b) → (∀ j, j < 25 → I' 111 (25 * r + j) = I 111 (25 * q + j) ∧ I' 111 (25 * q + j) = I 111 (25 * r + j)) → (∀ j, j / 25 ≠ r → j / 25 ≠ q → I' 111 j = I 111 j) → qC d 212 [.ref 105, .ref 111, .int (nI 3), .int (nI r)] g I' J (fun v _ I1 _ => v = none ∧ ∃ k1, nI 25 * nI r = nI k1 ∧ k1 < 381 ∧ Q (some (.int (I1 111 k1))) g I1 J)) : ∀ (f i : Nat) (I' : qI) (w4 : Value), i + f = 25 → (∀ b, b ≠ 111 → I' b = I b) → (∀ j, j < i → I' 111 (25 * r + j) = I 111 (25 * q + j) ∧ I' 111 (25 * q + j) = I 111 (25 * r + j)) → (∀ j, i ≤ j → j < 25 → I' 111 (25 * r + j) = I 111 (25 * r + j) ∧ I' 111 (25 * q + j) = I 111 (25 * q + j)) → (∀ j, j / 25 ≠ r → j / 25 ≠ q → I' 111 j = I 111 j) → qev (d + 1) 229 (60, [.ref 105, .int (nI r), .int (nI q), .int (nI i), w4], [], g, I', J) Q
  | 0, i, I', w4, hi, f1, f2, f3, f4 => w229_60 hsh (brT (by rw [nI_leI (by omega) (by omega)]; omega) (k I' f1 (fun j hj => f2 j (by omega)) f4))
  | f + 1, i, I', w4, hi, f1, f2, f3, f4 => by
    have er : nI 25 * nI r + nI i = nI (25 * r + i) := by rw [pk_mul, nI_add]
    have eq : nI 25 * nI q + nI i = nI (25 * q + i) := by rw [pk_mul, nI_add]
    refine w229_60 hsh (brN (by rw [nI_leI (by omega) (by omega)]; omega) ⟨25 * r + i, er, by omega, 25 * q + i, eq, by omega, 25 * r + i, er, by omega, 25 * q + i, eq, by omega, ?_⟩)
    rw [nI_add]
    have h5 := f3 i (Nat.le_refl _) (by omega)
    refine r_swp_l hsh hr hq hne k f (i + 1) _ _ (by omega) (fun b hb => by rw [zu_a hb, zu_a hb]; exact f1 b hb) (fun j hj => ?_) (fun j hj hj2 => ?_) (fun j hj1 hj2 => ?_)
    · by_cases hji : j = i
      · rw [hji]
        exact ⟨by rw [zu_k (by omega), zu_s]; exact h5.2, by rw [zu_s]; exact h5.1⟩
      · have := f2 j (by omega)
        exact ⟨by rw [zu_k (by omega), zu_k (by omega)]; exact this.1, by rw [zu_k (by omega), zu_k (by omega)]; exact this.2⟩
    · have := f3 j (by omega) hj2
      exact ⟨by rw [zu_k (by omega), zu_k (by omega)]; exact this.1, by rw [zu_k (by omega), zu_k (by omega)]; exact this.2⟩
    · rw [zu_k (by omega), zu_k (by omega)]; exact f4 j hj1 hj2
theorem r_swp (hsh : qSh g) (ok : okW p M s hs im sc) (hp : p ≠ 0) (h : rI I t p M s hs im sc rf) (hr : r < 8) (hq : q < 8) (hne : r ≠ q) (k : ∀ I', rI I' t p M (swS s r q) (pushH hs s) im sc rf → (∀ b, b ≠ 105 → b ≠ 111 → b ≠ 114 → I' b = I b) → Q (some (.int (nI (s.1 q).1))) g I' J) : qC (d + 1) 211 [.ref 105] g I J (fun v _ I3 _ => v = none ∧ qev (d + 2) 229 (60, [.ref 105, .int (nI r), .int (nI q), .int (nI 0), qpad], [], g, I3, J) Q) := by
  have hR := ok.ring hp
  have hb := swp_ok hR.2.2.1.1 hr hq
  refine r_kept hsh ok h (fun I1 h1 f1 f2 => ⟨rfl, ?_⟩)
  have hS1 := h1.2.2.1
  refine r_swp_l (I := I1) hsh hr hq hne (fun I2 a1 a2 a3 => ?_) 25 0 I1 qpad (by omega) (fun _ _ => rfl) (fun j hj => absurd hj (Nat.not_lt_zero j)) (fun _ _ _ => ⟨rfl, rfl⟩) (fun _ _ _ => rfl)
  have z : ∀ n : Nat, 0 + 25 * n = 25 * n := fun n => by omega
  have hS2 : rSt I2 111 0 (swp s.1 r q, s.2) := by
    refine ⟨fun i hi => ?_, ?_, fun j e he => ?_⟩
    · dsimp only
      unfold swp
      rw [z]
      by_cases e : i = r
      · have hbq := ok.bd.1.1 q hq
        rw [if_pos e, e]
        have h9 := hS1.1 q hq
        rw [z] at h9
        have h0 := (a2 0 (by omega)).1
        rw [Nat.add_zero, Nat.add_zero] at h0
        refine ⟨by rw [h0]; exact h9.1, fun j hj => ?_⟩
        have h1 := (a2 (1 + j) (by omega)).1
        rw [← Nat.add_assoc, ← Nat.add_assoc] at h1
        rw [h1]; exact h9.2 j hj
      · rw [if_neg e]
        by_cases e2 : i = q
        · have hbr := ok.bd.1.1 r hr
          rw [if_pos e2, e2]
          have h9 := hS1.1 r hr
          rw [z] at h9
          have h0 := (a2 0 (by omega)).2
          rw [Nat.add_zero, Nat.add_zero] at h0
          refine ⟨by rw [h0]; exact h9.1, fun j hj => ?_⟩
          have h1 := (a2 (1 + j) (by omega)).2
          rw [← Nat.add_assoc, ← Nat.add_assoc] at h1
          rw [h1]; exact h9.2 j hj
        · have hbi := ok.bd.1.1 i hi
          rw [if_neg e2]
          have h9 := hS1.1 i hi
          rw [z] at h9
          exact ⟨by rw [a3 _ (by omega) (by omega)]; exact h9.1, fun j hj => by rw [a3 _ (by omega) (by omega)]; exact h9.2 j hj⟩
    · rw [a3 _ (by omega) (by omega)]; exact hS1.2.1
    · have h8 := hS1.2.2 j e he
      exact ⟨by rw [a3 _ (by omega) (by omega)]; exact h8.1, by rw [a3 _ (by omega) (by omega)]; exact h8.2.1, by rw [a3 _ (by omega) (by omega)]; exact h8.2.2⟩
  refine r_note (hsh.k rfl) (by omega) hS2 ⟨fun i hi => (hb i hi).2.1, ok.bd.1.2⟩ hr (fun I3 S3 f3 => ⟨rfl, 25 * r, pk_mul 25 r, by omega, ?_⟩)
  dsimp only at S3
  rw [swp_at] at S3
  have e := (S3.1 r hr).1
  dsimp only at e
  rw [swp_at, z] at e
  rw [e]
  exact k I3 (h1.st (fun b hb => by rw [f3 b hb, a1 b hb]) S3) (fun b b1 b2 b3 => by rw [f3 b b2, a1 b b2, f1 b b1 b3])
theorem c_swap (ok : okW p M s hs im sc) : bOK 112 229 [.int x1, .int x2] (t, p, M, s, hs, im, sc, rf) := by
  have R0 : ((p = 0 ∨ (∀ r, r < 8 → x1 ≠ nI r)) ∨ (∀ r, r < 8 → x2 ≠ nI r) ∨ (lnr s.1 x1 = 0 ∧ lnr s.1 x2 = 0)) → bOK 112 229 [.int x1, .int x2] (t, p, M, s, hs, im, sc, rf) := by
    intro hc
    refine ⟨-1, (t, p, M, s, hs, im, sc, bump rf 0), ok, fun d g I J Q h k => ?_, fun d g I J Q hsh h k => ?_⟩
    · have h : kI g I t p M s hs im sc rf := h
      have kk : ∀ d, qC d 137 [.ref 4, .int (nI 0)] g I J (fun v _ I1 _ => ∃ r1, v = some (.int r1) ∧ Q (some (.int r1)) g I1 J) := fun d => k_ref (by omega) h rfl (fun I1 h1 f1 => ⟨_, rfl, k g I1 J h1 (kFr.same (fun b hb => f1 b (by omega)))⟩)
      refine w112 h.1.1 (brIge (by omega) (fun r hr e => brI (by omega) (fun q hq e2 => ?_) (fun _ => ⟨kk _, kk _⟩)) (fun _ => ⟨kk _, kk _⟩))
      have hz : lnr s.1 x1 = 0 ∧ lnr s.1 x2 = 0 := by
        rcases hc with (h0 | h0) | h0 | h0
        · rw [e, e2, lnr_at hr, lnr_at hq]; exact ⟨ok.l0 h0 r hr, ok.l0 h0 q hq⟩
        · exact absurd e (h0 r hr)
        · exact absurd e2 (h0 q hq)
        · exact h0
      refine k_len h.1.1 h.2.2.2.2.2.1.1 ⟨_, rfl, ?_⟩
      rw [hz.1]
      refine br0 (k_len h.1.1 h.2.2.2.2.2.1.1 ⟨_, rfl, ?_⟩)
      rw [hz.2]
      exact br0 (kk _)
    · have h : rI I t p M s hs im sc rf := h
      have h2 := h.keep ok rKp.th
      have kk : ∀ d, qC d 213 [.ref 105, .int (nI 0)] g (qw I 105 0 (nI 0)) J (fun v _ I1 _ => ∃ r1, v = some (.int r1) ∧ Q (some (.int r1)) g I1 J) := fun d => r_ref hsh (by omega) h2 rfl (fun I1 h1 f1 => ⟨_, rfl, k I1 J h1 (fun b hb => by rw [f1 b (by omega), zu_a (by omega)])⟩)
      refine w229 hsh (r_rgs hsh h2.2.1 ok.p_lt (fun r hr e hp => ⟨_, rfl, br1 (r_rgs hsh h2.2.1 ok.p_lt (fun q hq e2 _ => ⟨_, rfl, br1 ?_⟩) (fun _ => ⟨_, rfl, br0 (kk _)⟩))⟩) (fun _ => ⟨_, rfl, br0 (kk _)⟩))
      have hz : lnr s.1 x1 = 0 ∧ lnr s.1 x2 = 0 := by
        rcases hc with (h0 | h0) | h0 | h0
        · exact absurd h0 hp
        · exact absurd e (h0 r hr)
        · exact absurd e2 (h0 q hq)
        · exact h0
      exact r_heldI hsh ok h2 (fun h0 => absurd hz.1 h0) (fun _ => ⟨_, rfl, br0 (r_heldI hsh ok h2 (fun h0 => absurd hz.2 h0) (fun _ => ⟨_, rfl, br0 (kk _)⟩))⟩)
  by_cases hp : p = 0
  · exact R0 (Or.inl (Or.inl hp))
  · rcases cls x1 8 (by omega) with ⟨r, hr, rfl⟩ | hx
    · rcases cls x2 8 (by omega) with ⟨q, hq, rfl⟩ | hx
      · by_cases hz : lnr s.1 (nI r) = 0 ∧ lnr s.1 (nI q) = 0
        · exact R0 (Or.inr (Or.inr hz))
        · have hbr := ok.bd.1.1 r hr
          have hbq := ok.bd.1.1 q hq
          rw [lnr_at hr, lnr_at hq] at hz
          by_cases hne : r = q
          · subst hne
            have hn : (s.1 r).1 ≠ 0 := fun e => hz ⟨e, e⟩
            refine ⟨-1, (t, p, M, s, hs, im, sc, bump rf 2), ok, fun d g I J Q h k => ?_, fun d g I J Q hsh h k => ?_⟩
            · have h : kI g I t p M s hs im sc rf := h
              refine w112 h.1.1 (brN (nI_pos (by omega)) (brN (by rw [nI_leI (by omega) (by omega)]; omega) (brN (nI_pos (by omega)) (brT (by rw [nI_ltI (by omega) (by omega)]; exact hr) (k_len h.1.1 h.2.2.2.2.2.1.1 ⟨_, rfl, ?_⟩)))))
              rw [lnr_at hr, ← nI_0, nI_eq (by omega) (by omega)]
              exact brN hn (brT rfl (k_ref (by omega) h rfl (fun I1 h1 f1 => ⟨_, rfl, k g I1 J h1 (kFr.same (fun b hb => f1 b (by omega)))⟩)))
            · have h : rI I t p M s hs im sc rf := h
              have h2 := h.keep ok rKp.th
              have n1 : ¬ (p = 0 ∨ ∀ i, i < 8 → nI r ≠ nI i) := fun h0 => h0.elim hp (fun h1 => h1 r hr rfl)
              refine w229 hsh (r_rgs hsh h2.2.1 ok.p_lt (fun _ _ _ _ => ⟨_, rfl, br1 (r_rgs hsh h2.2.1 ok.p_lt (fun _ _ _ _ => ⟨_, rfl, br1 (r_heldI hsh ok h2 (fun _ => ⟨_, rfl, br1 (brT rfl ?_)⟩) (fun h0 => absurd h0 (by rw [lnr_at hr]; exact hn)))⟩) (fun h0 => absurd h0 n1))⟩) (fun h0 => absurd h0 n1))
              exact r_ref hsh (by omega) h2 rfl (fun I1 h1 f1 => ⟨_, rfl, k I1 J h1 (fun b hb => by rw [f1 b (by omega), zu_a (by omega)])⟩)
          · have hR := ok.ring hp
            have hxy : ¬ nI r = nI q := by rw [nI_eq (by omega) (by omega)]; exact hne
            refine ⟨nI (s.1 q).1, (t, p, M, swS s r q, pushH hs s, im, sc, rf), ok.hist hp ⟨swp_ok hR.2.2.1.1 hr hq, nt_ok hR.2.2.1.2 ⟨by show 3 ≤ 3; omega, hr, hbq⟩⟩, fun d g I J Q h k => ?_, fun d g I J Q hsh h k => ?_⟩
            · have h : kI g I t p M s hs im sc rf := h
              refine w112 h.1.1 (brN (nI_pos (by omega)) (brN (by rw [nI_leI (by omega) (by omega)]; omega) (brN (nI_pos (by omega)) (brT (by rw [nI_ltI (by omega) (by omega)]; exact hq) (k_len h.1.1 h.2.2.2.2.2.1.1 ⟨_, rfl, ?_⟩)))))
              rw [lnr_at hr, ← nI_0, nI_eq (by omega) (by omega)]
              by_cases hn : (s.1 r).1 = 0
              · refine brT hn (k_len h.1.1 h.2.2.2.2.2.1.1 ⟨_, rfl, ?_⟩)
                rw [lnr_at hq, nI_eq (by omega) (by omega)]
                exact brN (fun e => hz ⟨hn, e⟩) (brN hxy (k_swp ok hp h hr hq hne k))
              · exact brN hn (brN hxy (k_swp ok hp h hr hq hne k))
            · have h : rI I t p M s hs im sc rf := h
              have h2 := h.keep ok rKp.th
              have n1 : ¬ (p = 0 ∨ ∀ i, i < 8 → nI r ≠ nI i) := fun h0 => h0.elim hp (fun h1 => h1 r hr rfl)
              have n2 : ¬ (p = 0 ∨ ∀ i, i < 8 → nI q ≠ nI i) := fun h0 => h0.elim hp (fun h1 => h1 q hq rfl)
              have kk : ∀ I', rI I' t p M (swS s r q) (pushH hs s) im sc rf → (∀ b, b ≠ 105 → b ≠ 111 → b ≠ 114 → I' b = qw I 105 0 (nI 0) b) → Q (some (.int (nI (s.1 q).1))) g I' J := fun I' h3 f3 => k I' J h3 (fun b hb => by rw [f3 b (by omega) (by omega) (by omega), zu_a (by omega)])
              refine w229 hsh (r_rgs hsh h2.2.1 ok.p_lt (fun _ _ _ _ => ⟨_, rfl, br1 (r_rgs hsh h2.2.1 ok.p_lt (fun _ _ _ _ => ⟨_, rfl, br1 (r_heldI hsh ok h2 (fun _ => ⟨_, rfl, br1 (brN hxy (r_swp hsh ok hp h2 hr hq hne kk))⟩) (fun h0 => ⟨_, rfl, br0 (r_heldI hsh ok h2 (fun _ => ⟨_, rfl, br1 (brN hxy (r_swp hsh ok hp h2 hr hq hne kk))⟩) (fun h1 => ?_))⟩))⟩) (fun h0 => absurd h0 n2))⟩) (fun h0 => absurd h0 n1))
              rw [lnr_at hr] at h0
              rw [lnr_at hq] at h1
              exact absurd ⟨h0, h1⟩ hz
      · exact R0 (Or.inr (Or.inl hx))
    · exact R0 (Or.inl (Or.inr hx))
end SWAPS
