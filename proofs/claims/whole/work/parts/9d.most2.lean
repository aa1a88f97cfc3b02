/-! call: most, counted -/
section MOST2
variable {d : Nat} {g : qG} {I I' : qI} {J : qJ} {Q : qQ} {t : List Nat} {p M n : Nat} {s s' : ST} {hs hs' : List ST} {im im' : Option ST} {sc : SC} {rf : RF} {x x1 x2 x3 : Int32} {regs : Nat → Sr} {a r q : Nat} {c : Nat → Int}
theorem tot_le {f : Nat → Nat} {B : Nat} (h : ∀ r, f r ≤ B) : ∀ k, tot f k ≤ k * B
  | 0 => by rw [Nat.zero_mul]; exact Nat.le_refl _
  | k + 1 => by
    have := tot_le h k
    have := h k
    unfold tot
    rw [Nat.succ_mul]
    omega
theorem k_all_l (ha : qSta g a) (hG : kG I a regs) (k : Q (some (.int (nI (tot (fun r => (regs r).1) 8)))) g I J) : ∀ f i, i + f = 8 → qev d 92 (4, [.ref a, .int (nI (tot (fun r => (regs r).1) i)), .int (nI i)], [], g, I, J) Q
  | 0, i, hi => by
    have e : i = 8 := by omega
    subst e
    exact w92_4 ha (brT (by rw [nI_leI (by omega) (by omega)]; omega) k)
  | f + 1, i, hi => by
    refine w92_4 ha (brN (by rw [nI_leI (by omega) (by omega)]; omega) ⟨i, rfl, by omega, ?_⟩)
    rw [(hG i (by omega)).1, nI_add, nI_add]
    exact k_all_l ha hG k f (i + 1) (by omega)
/-- those other than 0 in a REGISTER -/
theorem k_nz_i (ha : qSta g a) (hG : kG I a regs) (hr : r < 8) (ho : okS p (regs r).1 (regs r).2) (hp : p < 998) {B : Nat} (k : ∀ w3, qev (d + 1) 93 (4, [.ref a, .int (nI (B + cz (regs r).2 (regs r).1)), .int (nI (r + 1)), w3], [], g, I, J) Q) : ∀ f i, i + f = (regs r).1 → qev (d + 1) 93 (12, [.ref a, .int (nI (B + cz (regs r).2 i)), .int (nI r), .int (nI i)], [], g, I, J) Q
  | 0, i, hi => by
    have h24 := ho.1
    refine w93_12 ha ⟨r, rfl, hr, brT (by rw [(hG r hr).1, nI_leI (by omega) (by omega)]; omega) ?_⟩
    have e : i = (regs r).1 := by omega
    rw [nI_add, e]
    exact k _
  | f + 1, i, hi => by
    have h24 := ho.1
    have b := ho.2.1 i
    have ih := k_nz_i ha hG hr ho hp k f (i + 1) (by omega)
    refine w93_12 ha ⟨r, rfl, hr, brN (by rw [(hG r hr).1, nI_leI (by omega) (by omega)]; omega) (k_cell ha hG hr (i := i) (by omega) h24 rfl rfl ⟨_, rfl, ?_⟩)⟩
    rw [iI_z0, iI_eq (by omega) (by omega), nI_add, nI_add]
    unfold cz at ih
    by_cases h0 : (regs r).2 i = 0
    · rw [if_pos h0, Nat.add_zero] at ih
      exact brT h0 ih
    · rw [if_neg h0, ← Nat.add_assoc] at ih
      exact brN h0 ih
theorem k_nz_l (ha : qSta g a) (hG : kG I a regs) (hok : okG p M regs) (hp : p < 998) (k : Q (some (.int (nI (tot (fun r => cz (regs r).2 (regs r).1) 8)))) g I J) : ∀ (f i : Nat) (w3 : Value), i + f = 8 → qev (d + 1) 93 (4, [.ref a, .int (nI (tot (fun r => cz (regs r).2 (regs r).1) i)), .int (nI i), w3], [], g, I, J) Q
  | 0, i, w3, hi => by
    have e : i = 8 := by omega
    subst e
    exact w93_4 ha (brT (by rw [nI_leI (by omega) (by omega)]; omega) k)
  | f + 1, i, w3, hi => by
    refine w93_4 ha (brN (by rw [nI_leI (by omega) (by omega)]; omega) ?_)
    exact k_nz_i (B := tot (fun r => cz (regs r).2 (regs r).1) i) ha hG (by omega) (hok i (by omega)).2 hp (fun w3 => k_nz_l ha hG hok hp k f (i + 1) w3 (by omega)) (regs i).1 0 (by omega)
theorem k_gr_i (ha : qSta g a) (hG : kG I a regs) (hr : r < 8) (ho : okS p (regs r).1 (regs r).2) (hp : p < 998) {B : Int} (hB : 0 ≤ B ∧ B ≤ p) (k : ∀ w3, qev (d + 1) 94 (4, [.ref a, .int (iI (mxF (regs r).2 B (regs r).1)), .int (nI (r + 1)), w3], [], g, I, J) Q) : ∀ f i, i + f = (regs r).1 → qev (d + 1) 94 (12, [.ref a, .int (iI (mxF (regs r).2 B i)), .int (nI r), .int (nI i)], [], g, I, J) Q
  | 0, i, hi => by
    have h24 := ho.1
    refine w94_12 ha ⟨r, rfl, hr, brT (by rw [(hG r hr).1, nI_leI (by omega) (by omega)]; omega) ?_⟩
    have e : i = (regs r).1 := by omega
    rw [nI_add, e]
    exact k _
  | f + 1, i, hi => by
    have h24 := ho.1
    have b := ho.2.1 i
    have b2 := mxF_bd ho.2.1 hB i
    have ih := k_gr_i ha hG hr ho hp hB k f (i + 1) (by omega)
    refine w94_12 ha ⟨r, rfl, hr, brN (by rw [(hG r hr).1, nI_leI (by omega) (by omega)]; omega) (k_cell ha hG hr (i := i) (by omega) h24 rfl rfl ⟨_, rfl, ?_⟩)⟩
    rw [qmax_iI (by omega) (by omega), nI_add]
    exact ih
theorem k_gr_l (ha : qSta g a) (hG : kG I a regs) (hok : okG p M regs) (hp : p < 998) (k : Q (some (.int (iI (mxT regs 8)))) g I J) : ∀ (f i : Nat) (w3 : Value), i + f = 8 → qev (d + 1) 94 (4, [.ref a, .int (iI (mxT regs i)), .int (nI i), w3], [], g, I, J) Q
  | 0, i, w3, hi => by
    have e : i = 8 := by omega
    subst e
    exact w94_4 ha (brT (by rw [nI_leI (by omega) (by omega)]; omega) k)
  | f + 1, i, w3, hi => by
    refine w94_4 ha (brN (by rw [nI_leI (by omega) (by omega)]; omega) ?_)
    exact k_gr_i ha hG (by omega) (hok i (by omega)).2 hp (mxT_bd hok i (by omega)) (fun w3 => k_gr_l ha hG hok hp k f (i + 1) w3 (by omega)) (regs i).1 0 (by omega)
/-- in the reference -/
def cf (fl : Bool) (c : Nat → Int) (i : Nat) : Nat := if fl = true then cz c i else i
theorem r_cf_i (hsh : qSh g) (hG : rG I 111 0 regs) (hr : r < 8) (ho : okS p (regs r).1 (regs r).2) (hp : p < 998) (fl : Bool) {B : Nat} (k : ∀ w3, qev d 262 (4, [.ref 105, .int (nI (bI fl)), .int (nI (B + cf fl (regs r).2 (regs r).1)), .int (nI (r + 1)), w3], [], g, I, J) Q) : ∀ f i, i + f = (regs r).1 → qev d 262 (13, [.ref 105, .int (nI (bI fl)), .int (nI (B + cf fl (regs r).2 i)), .int (nI r), .int (nI i)], [], g, I, J) Q
  | 0, i, hi => by
    have h24 := ho.1
    have hg := (hG r hr).1
    rw [Nat.zero_add] at hg
    refine w262_13 hsh ⟨25 * r, pk_mul 25 r, by omega, brT (by rw [hg, nI_leI (by omega) (by omega)]; omega) ?_⟩
    have e : i = (regs r).1 := by omega
    rw [nI_add, e]
    exact k _
  | f + 1, i, hi => by
    have h24 := ho.1
    have b := ho.2.1 i
    have hg := hG r hr
    rw [Nat.zero_add] at hg
    have ih := r_cf_i hsh hG hr ho hp fl k f (i + 1) (by omega)
    refine w262_13 hsh ⟨25 * r, pk_mul 25 r, by omega, brN (by rw [hg.1, nI_leI (by omega) (by omega)]; omega) ?_⟩
    rw [nI_add, nI_add, nI_add]
    cases fl with
    | false =>
      have e : B + cf false (regs r).2 (i + 1) = B + cf false (regs r).2 i + 1 := rfl
      rw [e] at ih
      exact br0 ih
    | true =>
      refine br1 ⟨25 * r + 1 + i, r25i r i, by omega, ?_⟩
      rw [hg.2 i (by omega), iI_z0, iI_eq (by omega) (by omega)]
      have e : B + cf true (regs r).2 (i + 1) = B + (cz (regs r).2 i + (if (regs r).2 i = 0 then 0 else 1)) := rfl
      rw [e] at ih
      by_cases h0 : (regs r).2 i = 0
      · rw [if_pos h0] at ih
        exact brT h0 ih
      · rw [if_neg h0, ← Nat.add_assoc] at ih
        exact brN h0 ih
theorem r_cf_l (hsh : qSh g) (hG : rG I 111 0 regs) (hok : okG p M regs) (hp : p < 998) (fl : Bool) (k : Q (some (.int (nI (tot (fun r => cf fl (regs r).2 (regs r).1) 8)))) g I J) : ∀ (f i : Nat) (w3 : Value), i + f = 8 → qev d 262 (4, [.ref 105, .int (nI (bI fl)), .int (nI (tot (fun r => cf fl (regs r).2 (regs r).1) i)), .int (nI i), w3], [], g, I, J) Q
  | 0, i, w3, hi => by
    have e : i = 8 := by omega
    subst e
    exact w262_4 (brT (by rw [nI_leI (by omega) (by omega)]; omega) k)
  | f + 1, i, w3, hi => by
    refine w262_4 (brN (by rw [nI_leI (by omega) (by omega)]; omega) ?_)
    have := r_cf_i (B := tot (fun r => cf fl (regs r).2 (regs r).1) i) hsh hG (by omega) (hok i (by omega)).2 hp fl (fun w3 => r_cf_l hsh hG hok hp fl k f (i + 1) w3 (by omega)) (regs i).1 0 (by omega)
    rw [show cf fl (regs i).2 0 = 0 by cases fl <;> rfl, Nat.add_zero] at this
    exact this
theorem r_gr_i (hsh : qSh g) (hG : rG I 111 0 regs) (hr : r < 8) (ho : okS p (regs r).1 (regs r).2) (hp : p < 998) {B : Int} (hB : 0 ≤ B ∧ B ≤ p) (k : ∀ w3, qev d 263 (4, [.ref 105, .int (iI (mxF (regs r).2 B (regs r).1)), .int (nI (r + 1)), w3], [], g, I, J) Q) : ∀ f i, i + f = (regs r).1 → qev d 263 (12, [.ref 105, .int (iI (mxF (regs r).2 B i)), .int (nI r), .int (nI i)], [], g, I, J) Q
  | 0, i, hi => by
    have h24 := ho.1
    have hg := (hG r hr).1
    rw [Nat.zero_add] at hg
    refine w263_12 hsh ⟨25 * r, pk_mul 25 r, by omega, brT (by rw [hg, nI_leI (by omega) (by omega)]; omega) ?_⟩
    have e : i = (regs r).1 := by omega
    rw [nI_add, e]
    exact k _
  | f + 1, i, hi => by
    have h24 := ho.1
    have b := ho.2.1 i
    have b2 := mxF_bd ho.2.1 hB i
    have hg := hG r hr
    rw [Nat.zero_add] at hg
    have ih := r_gr_i hsh hG hr ho hp hB k f (i + 1) (by omega)
    refine w263_12 hsh ⟨25 * r, pk_mul 25 r, by omega, brN (by rw [hg.1, nI_leI (by omega) (by omega)]; omega) ⟨25 * r + 1 + i, r25i r i, by omega, ?_⟩⟩
    rw [hg.2 i (by omega), iI_le (by omega) (by omega), nI_add]
    unfold mxF at ih
    by_cases h0 : (regs r).2 i ≤ mxF (regs r).2 B i
    · rw [Int.max_eq_left h0] at ih
      exact brT h0 ih
    · rw [Int.max_eq_right (by omega)] at ih
      refine brN h0 ⟨25 * r + 1 + i, r25i r i, by omega, ?_⟩
      rw [hg.2 i (by omega)]
      exact ih
theorem r_gr_l (hsh : qSh g) (hG : rG I 111 0 regs) (hok : okG p M regs) (hp : p < 998) (k : Q (some (.int (iI (mxT regs 8)))) g I J) : ∀ (f i : Nat) (w3 : Value), i + f = 8 → qev d 263 (4, [.ref 105, .int (iI (mxT regs i)), .int (nI i), w3], [], g, I, J) Q
  | 0, i, w3, hi => by
    have e : i = 8 := by omega
    subst e
    exact w263_4 (brT (by rw [nI_leI (by omega) (by omega)]; omega) k)
  | f + 1, i, w3, hi => by
    refine w263_4 (brN (by rw [nI_leI (by omega) (by omega)]; omega) ?_)
    exact r_gr_i hsh hG (by omega) (hok i (by omega)).2 hp (mxT_bd hok i (by omega)) (fun w3 => r_gr_l hsh hG hok hp k f (i + 1) w3 (by omega)) (regs i).1 0 (by omega)
def mostV (regs : Nat → Sr) (w : Nat) : Int32 := match w with
  | 0 => nI (bitsF (fullB regs) 8)
  | 1 => iI (bsF (fun r => (regs r).1) (fullB regs) 8)
  | 2 => iI (bsF (dpt regs) (fullB regs) 8)
  | 3 => nI (tot (fun r => (regs r).1) 8)
  | 4 => nI (tot (fun r => cz (regs r).2 (regs r).1) 8)
  | 5 => iI (mxT regs 8)
  | _ => nI (bitsF (zfB regs) 8)
theorem sw7 {w : Nat} (hw : w < 7) {A0 A1 A2 A3 A4 A5 A6 A7 : Prop} (h0 : w = 0 → A0) (h1 : w = 1 → A1) (h2 : w = 2 → A2) (h3 : w = 3 → A3) (h4 : w = 4 → A4) (h5 : w = 5 → A5) (h6 : w = 6 → A6) : (nI w = nI 0 → A0) ∧ (nI w = nI 1 → A1) ∧ (nI w = nI 2 → A2) ∧ (nI w = nI 3 → A3) ∧ (nI w = nI 4 → A4) ∧ (nI w = nI 5 → A5) ∧ (nI w = nI 6 → A6) ∧ (¬ nI w = nI 0 ∧ ¬ nI w = nI 1 ∧ ¬ nI w = nI 2 ∧ ¬ nI w = nI 3 ∧ ¬ nI w = nI 4 ∧ ¬ nI w = nI 5 ∧ ¬ nI w = nI 6 → A7) := by
  simp only [nI_eq (show w < 2 ^ 31 by omega) (show 0 < 2 ^ 31 by omega), nI_eq (show w < 2 ^ 31 by omega) (show 1 < 2 ^ 31 by omega), nI_eq (show w < 2 ^ 31 by omega) (show 2 < 2 ^ 31 by omega), nI_eq (show w < 2 ^ 31 by omega) (show 3 < 2 ^ 31 by omega), nI_eq (show w < 2 ^ 31 by omega) (show 4 < 2 ^ 31 by omega), nI_eq (show w < 2 ^ 31 by omega) (show 5 < 2 ^ 31 by omega), nI_eq (show w < 2 ^ 31 by omega) (show 6 < 2 ^ 31 by omega)]
  exact ⟨h0, h1, h2, h3, h4, h5, h6, fun h => by omega⟩
theorem c_most (ok : okW p M s hs im sc) : bOK 128 265 [.int x1] (t, p, M, s, hs, im, sc, rf) := by
  by_cases hp : p = 0
  · refine ⟨-1000000, (t, p, M, s, hs, im, sc, rf), ok, fun d g I J Q h k => ?_, fun d g I J Q hsh h k => ?_⟩
    · have h : kI g I t p M s hs im sc rf := h
      exact w128 h.1.1 (h.2.2.2.2.1.tt (fun _ => k g I J h (kFr.refl g I)) (fun h0 => absurd hp h0))
    · have h : rI I t p M s hs im sc rf := h
      have h2 := h.keep ok rKp.th
      exact w265 hsh (h2.2.1.tt ok.p_lt (fun _ => k _ J h2 rKp.th.fr) (fun h0 => absurd hp h0))
  · have hok := (ok.ring hp).2.2.1.1
    have hb := ok.bd.1.1
    rcases cls x1 7 (by omega) with ⟨w, hw, rfl⟩ | hx
    · refine ⟨mostV s.1 w, (t, p, M, s, hs, im, sc, rf), ok, fun d g I J Q h k => ?_, fun d g I J Q hsh h k => ?_⟩
      · have h : kI g I t p M s hs im sc rf := h
        have k := k g I J h (kFr.refl g I)
        have s89 := h.1.1.sta (a := 89) rfl (by omega)
        have hG := h.2.2.2.2.2.1.1
        refine w128 h.1.1 (h.2.2.2.2.1.tt (fun h0 => absurd h0 hp) (fun _ => sw7 hw (fun e => ?_) (fun e => ?_) (fun e => ?_) (fun e => ?_) (fun e => ?_) (fun e => ?_) (fun e => ?_)))
        · subst e; exact k_bits s89 hG hb ⟨_, rfl, k⟩
        · subst e
          have := k_long_l (d := d + 89) s89 hG hb (Q := fun v _ _ _ => ∃ r2, v = some (.int r2) ∧ Q (some (.int r2)) g I J) (J := J) ⟨_, rfl, k⟩ 8 0 (by omega)
          exact w90 s89 this
        · subst e
          have := k_deep_l (d := d + 87) s89 hG hok ok.p_lt (Q := fun v _ _ _ => ∃ r2, v = some (.int r2) ∧ Q (some (.int r2)) g I J) (J := J) ⟨_, rfl, k⟩ 8 0 (by omega)
          exact w91 s89 this
        · subst e
          have := k_all_l (d := d + 89) s89 hG (Q := fun v _ _ _ => ∃ r2, v = some (.int r2) ∧ Q (some (.int r2)) g I J) (J := J) ⟨_, rfl, k⟩ 8 0 (by omega)
          exact w92 s89 this
        · subst e
          have := k_nz_l (d := d + 88) s89 hG hok ok.p_lt (Q := fun v _ _ _ => ∃ r2, v = some (.int r2) ∧ Q (some (.int r2)) g I J) (J := J) ⟨_, rfl, k⟩ 8 0 qpad (by omega)
          exact w93 s89 this
        · subst e
          have := k_gr_l (d := d + 88) s89 hG hok ok.p_lt (Q := fun v _ _ _ => ∃ r2, v = some (.int r2) ∧ Q (some (.int r2)) g I J) (J := J) ⟨_, rfl, k⟩ 8 0 qpad (by omega)
          exact w94 s89 this
        · subst e
          have := k_zf_l (d := d + 88) s89 hG hok ok.p_lt (Q := fun v _ _ _ => ∃ r2, v = some (.int r2) ∧ Q (some (.int r2)) g I J) (J := J) ⟨_, rfl, k⟩ 8 0 (by omega)
          exact w95 s89 this
      · have h : rI I t p M s hs im sc rf := h
        have h2 := h.keep ok rKp.th
        have hG := h2.2.2.1.1
        have k0 := k _ J h2 rKp.th.fr
        refine w265 hsh (h2.2.1.tt ok.p_lt (fun h0 => absurd h0 hp) (fun _ => sw7 hw (fun e => ?_) (fun e => ?_) (fun e => ?_) (fun e => ?_) (fun e => ?_) (fun e => ?_) (fun e => ?_)))
        · subst e
          exact w264 (r_those_l (d := d + 86) hsh ok hp h2 false (Q := fun v _ _ _ => ∃ r2, v = some (.int r2) ∧ Q (some (.int r2)) g (qw I 105 0 (nI 0)) J) (J := J) ⟨_, rfl, k0⟩ 8 0 (by omega))
        · subst e
          refine w261 (r_best_l (d := d + 86) hsh ok hp true (Q := fun v _ I1 _ => ∃ r2, v = some (.int r2) ∧ Q (some (.int r2)) g I1 J) (J := J) (I0 := qw I 105 0 (nI 0)) (fun I' f' => ⟨_, rfl, ?_⟩) 8 0 _ 0 qpad (by omega) h2 (fun _ _ => rfl) (fun e => absurd rfl e))
          have f5 := rKp.trans (I := I) rKp.th (rKp.s115 f')
          exact k I' J (h.keep ok f5) f5.fr
        · subst e
          refine w261 (r_best_l (d := d + 86) hsh ok hp false (Q := fun v _ I1 _ => ∃ r2, v = some (.int r2) ∧ Q (some (.int r2)) g I1 J) (J := J) (I0 := qw I 105 0 (nI 0)) (fun I' f' => ⟨_, rfl, ?_⟩) 8 0 _ 0 qpad (by omega) h2 (fun _ _ => rfl) (fun e => absurd rfl e))
          have f5 := rKp.trans (I := I) rKp.th (rKp.s115 f')
          exact k I' J (h.keep ok f5) f5.fr
        · subst e
          exact w262 (r_cf_l (d := d + 89) hsh hG hok ok.p_lt false (Q := fun v _ _ _ => ∃ r2, v = some (.int r2) ∧ Q (some (.int r2)) g (qw I 105 0 (nI 0)) J) (J := J) ⟨_, rfl, k0⟩ 8 0 qpad (by omega))
        · subst e
          exact w262 (r_cf_l (d := d + 89) hsh hG hok ok.p_lt true (Q := fun v _ _ _ => ∃ r2, v = some (.int r2) ∧ Q (some (.int r2)) g (qw I 105 0 (nI 0)) J) (J := J) ⟨_, rfl, k0⟩ 8 0 qpad (by omega))
        · subst e
          exact w263 (r_gr_l (d := d + 89) hsh hG hok ok.p_lt (Q := fun v _ _ _ => ∃ r2, v = some (.int r2) ∧ Q (some (.int r2)) g (qw I 105 0 (nI 0)) J) (J := J) ⟨_, rfl, k0⟩ 8 0 qpad (by omega))
        · subst e
          exact w264 (r_those_l (d := d + 86) hsh ok hp h2 true (Q := fun v _ _ _ => ∃ r2, v = some (.int r2) ∧ Q (some (.int r2)) g (qw I 105 0 (nI 0)) J) (J := J) ⟨_, rfl, k0⟩ 8 0 (by omega))
    · refine ⟨-1000000, (t, p, M, s, hs, im, sc, rf), ok, fun d g I J Q h k => ?_, fun d g I J Q hsh h k => ?_⟩
      · have h : kI g I t p M s hs im sc rf := h
        have k := k g I J h (kFr.refl g I)
        exact w128 h.1.1 (h.2.2.2.2.1.tt (fun h0 => absurd h0 hp) (fun _ => ⟨fun e => absurd e (hx 0 (by omega)), fun e => absurd e (hx 1 (by omega)), fun e => absurd e (hx 2 (by omega)), fun e => absurd e (hx 3 (by omega)), fun e => absurd e (hx 4 (by omega)), fun e => absurd e (hx 5 (by omega)), fun e => absurd e (hx 6 (by omega)), fun _ => k⟩))
      · have h : rI I t p M s hs im sc rf := h
        have h2 := h.keep ok rKp.th
        have k := k _ J h2 rKp.th.fr
        exact w265 hsh (h2.2.1.tt ok.p_lt (fun h0 => absurd h0 hp) (fun _ => ⟨fun e => absurd e (hx 0 (by omega)), fun e => absurd e (hx 1 (by omega)), fun e => absurd e (hx 2 (by omega)), fun e => absurd e (hx 3 (by omega)), fun e => absurd e (hx 4 (by omega)), fun e => absurd e (hx 5 (by omega)), fun e => absurd e (hx 6 (by omega)), fun _ => k⟩))
end MOST2
