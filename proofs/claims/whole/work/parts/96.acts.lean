/-! calls: order, cut, drop, swap -/
section ACTS
variable {d : Nat} {g : qG} {I : qI} {J : qJ} {Q : qQ} {t : List Nat} {p M : Nat} {s : ST} {hs : List ST} {im : Option ST} {sc : SC} {rf : RF} {x x1 x2 : Int32} {regs : Nat → Sr} {a r : Nat}
theorem okW.full (ok : okW p M s hs im sc) (h : lnr s.1 x ≠ 0) : ∃ r, r < 8 ∧ x = nI r ∧ (s.1 r).1 ≠ 0 ∧ p ≠ 0 ∧ okS p (s.1 r).1 (s.1 r).2 ∧ (s.1 r).1 ≤ M ∧ (s.1 r).1 ≤ 24 := by
  obtain ⟨r, hr, e, hn⟩ := lnr_nz h
  have hp : p ≠ 0 := fun h0 => hn (ok.l0 h0 r hr)
  have h2 := (ok.ring hp).2.2.1.1 r hr
  exact ⟨r, hr, e, hn, hp, h2.2, h2.1, h2.2.1⟩
theorem r_heldI (hsh : qSh g) (ok : okW p M s hs im sc) (h : rI I t p M s hs im sc rf) (k1 : lnr s.1 x ≠ 0 → Q (some (.int (nI 1))) g I J) (k0 : lnr s.1 x = 0 → Q (some (.int (nI 0))) g I J) : qC (d + 2) 215 [.ref 105, .int x] g I J Q :=
  r_held hsh h.2.1 ok.p_lt h.2.2.1.1 (fun r hr => ok.bd.1.1 r hr) ok.l0 (fun r hr e _ hn => k1 (by rw [e, lnr_at hr]; exact hn)) k0
theorem k_fnz_l (ha : qSta g a) (hG : kG I a regs) (hr : r < 8) (ho : okS p (regs r).1 (regs r).2) (hp : p < 998) : ∀ f i, i + f = (regs r).1 → Q (some (.int (nI (odf (regs r).2 f i)))) g I J → qev (d + 1) 87 (2, [.ref a, .int (nI r), .int (nI i)], [], g, I, J) Q
  | 0, i, hi, h => by
    have h24 := ho.1
    refine w87_2 ha ⟨r, rfl, hr, brT ?_ h⟩
    rw [(hG r hr).1, nI_leI (by omega) (by omega)]; omega
  | f + 1, i, hi, h => by
    have h24 := ho.1
    refine w87_2 ha ⟨r, rfl, hr, brN ?_ (k_cell ha hG hr (i := i) (by omega) h24 rfl rfl ⟨_, rfl, ?_⟩)⟩
    · rw [(hG r hr).1, nI_leI (by omega) (by omega)]; omega
    · rw [iI_z0, iI_eq (by have := ho.2.1 i; omega) (by omega)]
      by_cases h3 : (regs r).2 i = 0
      · rw [odf, if_pos h3] at h
        refine brT h3 ?_
        rw [nI_add]
        exact k_fnz_l ha hG hr ho hp f (i + 1) (by omega) h
      · rw [odf, if_neg h3] at h
        exact brN h3 h
theorem k_fnz (ha : qSta g a) (hG : kG I a regs) (hr : r < 8) (ho : okS p (regs r).1 (regs r).2) (hp : p < 998) (k : Q (some (.int (nI (od (regs r).1 (regs r).2)))) g I J) : qC (d + 1) 87 [.ref a, .int (nI r)] g I J Q :=
  w87 ha (k_fnz_l ha hG hr ho hp _ 0 (by omega) k)
theorem c_order (ok : okW p M s hs im sc) : bOK 109 226 [.int x1] (t, p, M, s, hs, im, sc, rf) := by
  by_cases hz : lnr s.1 x1 = 0
  · refine ⟨-1, (t, p, M, s, hs, im, sc, rf), ok, fun d g I J Q h k => ?_, fun d g I J Q hsh h k => ?_⟩
    · have h : kI g I t p M s hs im sc rf := h
      refine w109 h.1.1 (k_len h.1.1 h.2.2.2.2.2.1.1 ⟨_, rfl, ?_⟩)
      rw [hz]; exact br0 (k g I J h (kFr.refl g I))
    · have h : rI I t p M s hs im sc rf := h
      have h2 := h.keep ok rKp.th
      exact w226 hsh (r_heldI hsh ok h2 (fun h0 => absurd hz h0) (fun _ => ⟨_, rfl, br0 (k _ J h2 rKp.th.fr)⟩))
  · obtain ⟨r, hr, rfl, hn, hp, ho, hM, h24⟩ := ok.full hz
    refine ⟨nI (od (s.1 r).1 (s.1 r).2), (t, p, M, s, hs, im, sc, rf), ok, fun d g I J Q h k => ?_, fun d g I J Q hsh h k => ?_⟩
    · have h : kI g I t p M s hs im sc rf := h
      refine w109 h.1.1 (k_len h.1.1 h.2.2.2.2.2.1.1 ⟨_, rfl, ?_⟩)
      rw [lnr_at hr, ← nI_0, nI_eq (by omega) (by omega)]
      exact brN hn (k_fnz (h.1.1.sta rfl (by omega)) h.2.2.2.2.2.1.1 hr ho ok.p_lt ⟨_, rfl, k g I J h (kFr.refl g I)⟩)
    · have h : rI I t p M s hs im sc rf := h
      have h2 := h.keep ok rKp.th
      refine w226 hsh (r_heldI hsh ok h2 (fun _ => ⟨_, rfl, br1 ?_⟩) (fun h0 => absurd h0 hz))
      refine r_take hsh h2.2.2.1.1 hr (by omega) h24 (fun I1 f1 f2 s1 => ⟨rfl, r_ord hsh (by omega) s1 ho ok.p_lt ⟨_, rfl, ?_⟩⟩)
      have f3 := rKp.trans rKp.th (rKp.s115 f1)
      exact k I1 J (h.keep ok f3) f3.fr
theorem r_cut_l (hsh : qSh g) {m : Nat} (hr : r < 8) {i3 : Int32} (k : ∀ I', (∀ q, q ≠ 111 → I' q = I q) → (∀ j, (j < 25 * r + 1 + m ∨ 25 * r + 25 ≤ j) → j ≠ 25 * r → I' 111 j = I 111 j) → I' 111 (25 * r) = nI m → qC d 212 [.ref 105, .ref 111, .int (nI 1), .int (nI r)] g I' J (fun v _ I1 _ => v = none ∧ Q (some (.int i3)) g I1 J)) : ∀ f i I', i + f = 24 → m ≤ i → (∀ q, q ≠ 111 → I' q = I q) → (∀ j, (j < 25 * r + 1 + m ∨ 25 * r + 25 ≤ j) → I' 111 j = I 111 j) → qev (d + 1) 227 (58, [.ref 105, .int (nI r), .int (nI m), .int i3, .int (nI i)], [], g, I', J) Q
  | 0, i, I', hi, hm, f1, f2 => by
    refine w227_58 hsh (brT (by rw [nI_leI (by omega) (by omega)]; omega) ⟨25 * r, pk_mul 25 r, by omega, k _ (fun q hq => by rw [zu_a hq]; exact f1 q hq) (fun j hj hne => by rw [zu_k hne]; exact f2 j hj) zu_s⟩)
  | f + 1, i, I', hi, hm, f1, f2 => by
    refine w227_58 hsh (brN (by rw [nI_leI (by omega) (by omega)]; omega) ⟨25 * r + 1 + i, by rw [pk_mul, nI_add, nI_add], by omega, ?_⟩)
    rw [nI_add]
    exact r_cut_l hsh hr k f (i + 1) _ (by omega) (by omega) (fun q hq => by rw [zu_a hq]; exact f1 q hq) (fun j hj => by rw [zu_k (by omega)]; exact f2 j hj)
/-- a REGISTER that is known less far -/
def ctS (s : ST) (r m : Nat) : ST := (up s.1 r (m, tr m (s.1 r).2), nt s.2 (1, r, m))
theorem tr_ok {n m : Nat} {c : Nat → Int} (h : okS p n c) (hp : 0 < p) (hm : m ≤ n) : okS p m (tr m c) := ⟨by have := h.1; omega, fun i => by
  unfold tr
  split
  · exact h.2.1 i
  · omega, fun i hi => if_neg (by omega)⟩
theorem c_cut (ok : okW p M s hs im sc) : bOK 110 227 [.int x1, .int x2] (t, p, M, s, hs, im, sc, rf) := by
  by_cases hz : lnr s.1 x1 = 0
  · refine ⟨-1, (t, p, M, s, hs, im, sc, bump rf 0), ok, fun d g I J Q h k => ?_, fun d g I J Q hsh h k => ?_⟩
    · have h : kI g I t p M s hs im sc rf := h
      refine w110 h.1.1 (k_len h.1.1 h.2.2.2.2.2.1.1 ⟨_, rfl, ?_⟩)
      rw [hz]
      exact br0 (k_ref (by omega) h rfl (fun I1 h1 f1 => ⟨_, rfl, k g I1 J h1 (kFr.same (fun b hb => f1 b (by omega)))⟩))
    · have h : rI I t p M s hs im sc rf := h
      have h2 := h.keep ok rKp.th
      exact w227 hsh (r_heldI hsh ok h2 (fun h0 => absurd hz h0) (fun _ => ⟨_, rfl, br0 (r_ref hsh (by omega) h2 rfl (fun I1 h1 f1 => ⟨_, rfl, k I1 J h1 (fun b hb => by rw [f1 b (by omega), zu_a (by omega)])⟩))⟩))
  · obtain ⟨r, hr, rfl, hn, hp, ho, hM, h24⟩ := ok.full hz
    obtain ⟨z, hz2, hz3, hz4⟩ := iI_of x2
    subst hz2
    by_cases c1 : 1 ≤ z
    · by_cases c2 : z < (s.1 r).1
      · obtain ⟨m, rfl⟩ : ∃ m : Nat, z = m := ⟨z.toNat, by omega⟩
        have hp0 : 0 < p := by omega
        have hR := ok.ring hp
        have okn : okST p M (ctS s r m) := ⟨up_ok hR.2.2.1.1 ⟨by show m ≤ M; omega, tr_ok ho hp0 (by omega)⟩, nt_ok hR.2.2.1.2 ⟨by show 1 ≤ 3; omega, hr, by show m ≤ 24; omega⟩⟩
        have eup : (up s.1 r (m, tr m (s.1 r).2) r) = (m, tr m (s.1 r).2) := if_pos rfl
        refine ⟨nI (s.1 r).1, (t, p, M, ctS s r m, pushH hs s, im, sc, rf), ok.hist hp okn, fun d g I J Q h k => ?_, fun d g I J Q hsh h k => ?_⟩
        · have h : kI g I t p M s hs im sc rf := h
          refine w110 h.1.1 (k_len h.1.1 h.2.2.2.2.2.1.1 ⟨_, rfl, ?_⟩)
          rw [lnr_at hr, ← nI_0, nI_eq (by omega) (by omega), ← nI_iI, nI_leI (by omega) (by omega), nI_ltI (by omega) (by omega)]
          refine brN hn (brT (by omega) (brT (by omega) (k_kept ok h (fun g1 I1 J1 h1 F => ⟨rfl, h1.1.1, r, rfl, hr, ?_⟩))))
          have hS1 := h1.2.2.2.2.2.1
          have hS2 : kSt (qw I1 90 r (nI m)) 89 (up s.1 r (m, tr m (s.1 r).2), s.2) := by
            refine ⟨fun q hq => ?_, hS1.2.keep (zu_a (by omega)) (zu_a (by omega))⟩
            dsimp only
            unfold up
            by_cases e : q = r
            · rw [if_pos e, e]
              refine ⟨zu_s, fun i hi => ?_⟩
              have hi : i < m := hi
              rw [zu_a (by omega), (hS1.1 r hr).2 i (by omega)]
              show _ = iI (if i < m then _ else _)
              rw [if_pos hi]
            · rw [if_neg e]
              exact ⟨by rw [zu_k e]; exact (hS1.1 q hq).1, fun i hi => by rw [zu_a (by omega)]; exact (hS1.1 q hq).2 i hi⟩
          refine k_note (h1.1.1.sta rfl (by omega)) hS2 hR.2.2.1.2 hr (by omega) (by dsimp only; rw [eup]; show m ≤ 24; omega) (fun I2 S2 f2 => ⟨rfl, ?_⟩)
          dsimp only at S2
          rw [eup] at S2
          have f3 : ∀ b, (b < 89 ∨ 92 < b) → I2 b = I1 b := fun b hb => by rw [f2 b (by omega) (by omega), zu_a (by omega)]
          exact k g1 I2 J1 (h1.st f3 S2) (F.fr.then (fun b hb => f3 b (by omega)))
        · have h : rI I t p M s hs im sc rf := h
          have h2 := h.keep ok rKp.th
          have hG := (h2.2.2.1.1 r hr).1
          rw [show 0 + 25 * r = 25 * r by omega] at hG
          refine w227 hsh (r_heldI hsh ok h2 (fun _ => ⟨_, rfl, br1 ⟨25 * r, pk_mul 25 r, by omega, ?_⟩⟩) (fun h0 => absurd h0 hz))
          rw [hG, ← nI_iI, nI_leI (by omega) (by omega), nI_ltI (by omega) (by omega)]
          refine brT (by omega) (brT (by omega) (r_kept hsh ok h2 (fun I1 h1 f1 f2 => ⟨rfl, r_cut_l (I := I1) hsh hr (fun I2 a1 a2 a3 => ?_) (24 - m) m I1 (by omega) (Nat.le_refl _) (fun _ _ => rfl) (fun _ _ => rfl)⟩)))
          have hS1 := h1.2.2.1
          have hS2 : rSt I2 111 0 (up s.1 r (m, tr m (s.1 r).2), s.2) := by
            refine ⟨fun q hq => ?_, ?_, fun j e he => ?_⟩
            · dsimp only
              unfold up
              have hbq := ok.bd.1.1 q hq
              by_cases e : q = r
              · rw [if_pos e, e, Nat.zero_add]
                refine ⟨a3, fun i hi => ?_⟩
                have hi : i < m := hi
                have h9 := (hS1.1 r hr).2 i (by omega)
                rw [Nat.zero_add] at h9
                rw [a2 _ (by omega) (by omega), h9]
                show _ = iI (if i < m then _ else _)
                rw [if_pos hi]
              · rw [if_neg e]
                exact ⟨by rw [a2 _ (by omega) (by omega)]; exact (hS1.1 q hq).1, fun i hi => by rw [a2 _ (by omega) (by omega)]; exact (hS1.1 q hq).2 i hi⟩
            · rw [a2 _ (by omega) (by omega)]; exact hS1.2.1
            · have h8 := hS1.2.2 j e he
              exact ⟨by rw [a2 _ (by omega) (by omega)]; exact h8.1, by rw [a2 _ (by omega) (by omega)]; exact h8.2.1, by rw [a2 _ (by omega) (by omega)]; exact h8.2.2⟩
          refine r_note (hsh.k rfl) (by omega) hS2 ⟨fun q hq => (up_ok hR.2.2.1.1 ⟨by show m ≤ M; omega, tr_ok ho hp0 (by omega)⟩ q hq).2.1, ok.bd.1.2⟩ hr (fun I3 S3 f3 => ⟨rfl, ?_⟩)
          dsimp only at S3
          rw [eup] at S3
          exact k I3 J (h1.st (fun b hb => by rw [f3 b hb, a1 b hb]) S3) (fun b hb => by rw [f3 b (by omega), a1 b (by omega), f1 b (by omega) (by omega), zu_a (by omega)])
      · refine ⟨-1, (t, p, M, s, hs, im, sc, bump rf 2), ok, fun d g I J Q h k => ?_, fun d g I J Q hsh h k => ?_⟩
        · have h : kI g I t p M s hs im sc rf := h
          refine w110 h.1.1 (k_len h.1.1 h.2.2.2.2.2.1.1 ⟨_, rfl, ?_⟩)
          rw [lnr_at hr, ← nI_0, nI_eq (by omega) (by omega), nI_iI 1, nI_iI (s.1 r).1, iI_le (by omega) (by omega), iI_lt (by omega) (by omega)]
          exact brN hn (brT c1 (brN c2 (k_ref (by omega) h rfl (fun I1 h1 f1 => ⟨_, rfl, k g I1 J h1 (kFr.same (fun b hb => f1 b (by omega)))⟩))))
        · have h : rI I t p M s hs im sc rf := h
          have h2 := h.keep ok rKp.th
          have hG := (h2.2.2.1.1 r hr).1
          rw [show 0 + 25 * r = 25 * r by omega] at hG
          refine w227 hsh (r_heldI hsh ok h2 (fun _ => ⟨_, rfl, br1 ⟨25 * r, pk_mul 25 r, by omega, ?_⟩⟩) (fun h0 => absurd h0 hz))
          rw [hG, nI_iI 1, nI_iI (s.1 r).1, iI_le (by omega) (by omega), iI_lt (by omega) (by omega)]
          exact brT c1 (brN c2 (r_ref hsh (by omega) h2 rfl (fun I1 h1 f1 => ⟨_, rfl, k I1 J h1 (fun b hb => by rw [f1 b (by omega), zu_a (by omega)])⟩)))
    · refine ⟨-1, (t, p, M, s, hs, im, sc, bump rf 1), ok, fun d g I J Q h k => ?_, fun d g I J Q hsh h k => ?_⟩
      · have h : kI g I t p M s hs im sc rf := h
        refine w110 h.1.1 (k_len h.1.1 h.2.2.2.2.2.1.1 ⟨_, rfl, ?_⟩)
        rw [lnr_at hr, ← nI_0, nI_eq (by omega) (by omega), nI_iI 1, iI_le (by omega) (by omega)]
        exact brN hn (brN c1 (k_ref (by omega) h rfl (fun I1 h1 f1 => ⟨_, rfl, k g I1 J h1 (kFr.same (fun b hb => f1 b (by omega)))⟩)))
      · have h : rI I t p M s hs im sc rf := h
        have h2 := h.keep ok rKp.th
        refine w227 hsh (r_heldI hsh ok h2 (fun _ => ⟨_, rfl, br1 ⟨25 * r, pk_mul 25 r, by omega, ?_⟩⟩) (fun h0 => absurd h0 hz))
        rw [nI_iI 1, iI_le (by omega) (by omega)]
        exact brN c1 (r_ref hsh (by omega) h2 rfl (fun I1 h1 f1 => ⟨_, rfl, k I1 J h1 (fun b hb => by rw [f1 b (by omega), zu_a (by omega)])⟩))
theorem r_drop_l (hsh : qSh g) (hr : r < 8) {i2 : Int32} (k : ∀ I', (∀ q, q ≠ 111 → I' q = I q) → (∀ j, (j < 25 * r ∨ 25 * r + 25 ≤ j) → I' 111 j = I 111 j) → I' 111 (25 * r) = nI 0 → qC d 212 [.ref 105, .ref 111, .int (nI 2), .int (nI r)] g I' J (fun v _ I1 _ => v = none ∧ Q (some (.int i2)) g I1 J)) : ∀ f i I', i + f = 25 → (∀ q, q ≠ 111 → I' q = I q) → (∀ j, (j < 25 * r ∨ 25 * r + 25 ≤ j) → I' 111 j = I 111 j) → (1 ≤ i → I' 111 (25 * r) = nI 0) → qev (d + 1) 228 (35, [.ref 105, .int (nI r), .int i2, .int (nI i)], [], g, I', J) Q
  | 0, i, I', hi, f1, f2, f3 => w228_35 hsh (brT (by rw [nI_leI (by omega) (by omega)]; omega) (k I' f1 f2 (f3 (by omega))))
  | f + 1, i, I', hi, f1, f2, f3 => by
    refine w228_35 hsh (brN (by rw [nI_leI (by omega) (by omega)]; omega) ⟨25 * r + i, by rw [pk_mul, nI_add], by omega, ?_⟩)
    rw [nI_add]
    refine r_drop_l hsh hr k f (i + 1) _ (by omega) (fun q hq => by rw [zu_a hq]; exact f1 q hq) (fun j hj => by rw [zu_k (by omega)]; exact f2 j hj) (fun _ => ?_)
    by_cases e : i = 0
    · subst e; exact zu_s
    · rw [zu_k (by omega)]; exact f3 (by omega)
def drS (s : ST) (r : Nat) : ST := (up s.1 r dS, nt s.2 (2, r, 0))
theorem c_drop (ok : okW p M s hs im sc) : bOK 111 228 [.int x1] (t, p, M, s, hs, im, sc, rf) := by
  by_cases hz : lnr s.1 x1 = 0
  · refine ⟨-1, (t, p, M, s, hs, im, sc, bump rf 0), ok, fun d g I J Q h k => ?_, fun d g I J Q hsh h k => ?_⟩
    · have h : kI g I t p M s hs im sc rf := h
      refine w111 h.1.1 (k_len h.1.1 h.2.2.2.2.2.1.1 ⟨_, rfl, ?_⟩)
      rw [hz]
      exact br0 (k_ref (by omega) h rfl (fun I1 h1 f1 => ⟨_, rfl, k g I1 J h1 (kFr.same (fun b hb => f1 b (by omega)))⟩))
    · have h : rI I t p M s hs im sc rf := h
      have h2 := h.keep ok rKp.th
      exact w228 hsh (r_heldI hsh ok h2 (fun h0 => absurd hz h0) (fun _ => ⟨_, rfl, br0 (r_ref hsh (by omega) h2 rfl (fun I1 h1 f1 => ⟨_, rfl, k I1 J h1 (fun b hb => by rw [f1 b (by omega), zu_a (by omega)])⟩))⟩))
  · obtain ⟨r, hr, rfl, hn, hp, ho, hM, h24⟩ := ok.full hz
    have hp0 : 0 < p := by omega
    have hR := ok.ring hp
    have okd : dS.1 ≤ M ∧ okS p dS.1 dS.2 := ⟨Nat.zero_le _, zero_ok p 0 hp0 (by omega)⟩
    have okn : okST p M (drS s r) := ⟨up_ok hR.2.2.1.1 okd, nt_ok hR.2.2.1.2 ⟨by show 2 ≤ 3; omega, hr, by show 0 ≤ 24; omega⟩⟩
    have eup : (up s.1 r dS r) = dS := if_pos rfl
    refine ⟨nI (s.1 r).1, (t, p, M, drS s r, pushH hs s, im, sc, rf), ok.hist hp okn, fun d g I J Q h k => ?_, fun d g I J Q hsh h k => ?_⟩
    · have h : kI g I t p M s hs im sc rf := h
      refine w111 h.1.1 (k_len h.1.1 h.2.2.2.2.2.1.1 ⟨_, rfl, ?_⟩)
      rw [lnr_at hr, ← nI_0, nI_eq (by omega) (by omega)]
      refine brN hn (k_kept ok h (fun g1 I1 J1 h1 F => ⟨rfl, h1.1.1, r, rfl, hr, ?_⟩))
      have hS1 := h1.2.2.2.2.2.1
      have hS2 : kSt (qw I1 90 r (nI 0)) 89 (up s.1 r dS, s.2) := by
        refine ⟨fun q hq => ?_, hS1.2.keep (zu_a (by omega)) (zu_a (by omega))⟩
        dsimp only
        unfold up
        by_cases e : q = r
        · rw [if_pos e, e]
          exact ⟨zu_s, fun i hi => absurd hi (Nat.not_lt_zero i)⟩
        · rw [if_neg e]
          exact ⟨by rw [zu_k e]; exact (hS1.1 q hq).1, fun i hi => by rw [zu_a (by omega)]; exact (hS1.1 q hq).2 i hi⟩
      refine k_note (h1.1.1.sta rfl (by omega)) hS2 hR.2.2.1.2 hr (by omega) (by dsimp only; rw [eup]; exact Nat.zero_le _) (fun I2 S2 f2 => ⟨rfl, ?_⟩)
      dsimp only at S2
      rw [eup] at S2
      have f3 : ∀ b, (b < 89 ∨ 92 < b) → I2 b = I1 b := fun b hb => by rw [f2 b (by omega) (by omega), zu_a (by omega)]
      exact k g1 I2 J1 (h1.st f3 S2) (F.fr.then (fun b hb => f3 b (by omega)))
    · have h : rI I t p M s hs im sc rf := h
      have h2 := h.keep ok rKp.th
      refine w228 hsh (r_heldI hsh ok h2 (fun _ => ⟨_, rfl, br1 (r_kept hsh ok h2 (fun I1 h1 f1 f2 => ⟨rfl, 25 * r, pk_mul 25 r, by omega, ?_⟩))⟩) (fun h0 => absurd h0 hz))
      have hS1 := h1.2.2.1
      have hG := (hS1.1 r hr).1
      rw [show 0 + 25 * r = 25 * r by omega] at hG
      rw [hG]
      refine r_drop_l (I := I1) hsh hr (fun I2 a1 a2 a3 => ?_) 25 0 I1 (by omega) (fun _ _ => rfl) (fun _ _ => rfl) (fun h => absurd h (by omega))
      have hS2 : rSt I2 111 0 (up s.1 r dS, s.2) := by
        refine ⟨fun q hq => ?_, ?_, fun j e he => ?_⟩
        · dsimp only
          unfold up
          have hbq := ok.bd.1.1 q hq
          by_cases e : q = r
          · rw [if_pos e, e, Nat.zero_add]
            exact ⟨a3, fun i hi => absurd hi (Nat.not_lt_zero i)⟩
          · rw [if_neg e]
            exact ⟨by rw [a2 _ (by omega)]; exact (hS1.1 q hq).1, fun i hi => by rw [a2 _ (by omega)]; exact (hS1.1 q hq).2 i hi⟩
        · rw [a2 _ (by omega)]; exact hS1.2.1
        · have h8 := hS1.2.2 j e he
          exact ⟨by rw [a2 _ (by omega)]; exact h8.1, by rw [a2 _ (by omega)]; exact h8.2.1, by rw [a2 _ (by omega)]; exact h8.2.2⟩
      refine r_note (hsh.k rfl) (by omega) hS2 ⟨fun q hq => (up_ok hR.2.2.1.1 okd q hq).2.1, ok.bd.1.2⟩ hr (fun I3 S3 f3 => ⟨rfl, ?_⟩)
      dsimp only at S3
      rw [eup] at S3
      exact k I3 J (h1.st (fun b hb => by rw [f3 b hb, a1 b hb]) S3) (fun b hb => by rw [f3 b (by omega), a1 b (by omega), f1 b (by omega) (by omega), zu_a (by omega)])
end ACTS
