/-! calls: log, count, alike, value, sums -/
section LOOKS
variable {d : Nat} {g : qG} {I I' : qI} {J : qJ} {Q : qQ} {t : List Nat} {p M : Nat} {s s' : ST} {hs hs' : List ST} {im im' : Option ST} {sc : SC} {rf : RF} {x x1 x2 x3 : Int32} {regs : Nat → Sr} {a r q : Nat}
theorem c_log (ok : okW p M s hs im sc) : bOK 117 241 [.int x1, .int x2] (t, p, M, s, hs, im, sc, rf) := by
  have hb := ok.bd.1.2
  rcases cls x1 s.2.length (by omega) with ⟨j, hj, rfl⟩ | hx
  · rcases cls x2 3 (by omega) with ⟨w, hw, rfl⟩ | hx2
    · obtain ⟨e, he⟩ : ∃ e, s.2[s.2.length - 1 - j]? = some e := ⟨_, List.getElem?_eq_getElem (by omega)⟩
      have hp : p ≠ 0 := fun h0 => by rw [(ok.no h0).1] at hj; exact absurd hj (Nat.not_lt_zero j)
      obtain ⟨o1, o2, o3⟩ := (ok.ring hp).2.2.1.2.2 e (List.mem_of_getElem? he)
      refine ⟨if w = 0 then nI e.1 else if w = 1 then nI e.2.1 else nI e.2.2, (t, p, M, s, hs, im, sc, rf), ok, fun d g I J Q h k => ?_, fun d g I J Q hsh h k => ?_⟩
      · have h : kI g I t p M s hs im sc rf := h
        have hS := h.2.2.2.2.2.1.2
        have k := k g I J h (kFr.refl g I)
        have hpk : pkE e < 10000 := by unfold pkE; omega
        have hv : I 92 (s.2.length - 1 - j) = nI (pkE e) := hS.2 _ e he
        have e1 : I 89 3 = nI s.2.length := hS.1
        refine w117 h.1.1 (w86 (h.1.1.sta rfl (by omega)) (brN (nI_pos (by omega)) (brT (by rw [e1, nI_ltI (by omega) (by omega)]; exact hj) ⟨s.2.length - 1 - j, by rw [e1, pk_sub (by omega), pk_sub (by omega)], by omega, ?_⟩)))
        rw [show 89 + 3 = 92 from rfl, hv, pk_div (by omega) (by omega) (by omega), pk_div (by omega) (by omega) (by omega), qrem, pk_rem (by omega) (by omega) (by omega), qrem, pk_rem (by omega) (by omega) (by omega)]
        have d1 : pkE e / 1000 = e.1 := by unfold pkE; omega
        have d2 : pkE e / 100 % 10 = e.2.1 := by unfold pkE; omega
        have d3 : pkE e % 100 = e.2.2 := by unfold pkE; omega
        rw [d1, d2, d3]
        rcases (show w = 0 ∨ w = 1 ∨ w = 2 by omega) with rfl | rfl | rfl
        · exact ⟨fun _ => ⟨_, rfl, k⟩, fun e => absurd e (by decide +kernel), fun e => absurd e (by decide +kernel), fun e => absurd rfl e.1⟩
        · exact ⟨fun e => absurd e (by decide +kernel), fun _ => ⟨_, rfl, k⟩, fun e => absurd e (by decide +kernel), fun e => absurd rfl e.2.1⟩
        · exact ⟨fun e => absurd e (by decide +kernel), fun e => absurd e (by decide +kernel), fun _ => ⟨_, rfl, k⟩, fun e => absurd rfl e.2.2⟩
      · have h : rI I t p M s hs im sc rf := h
        have h2 := h.keep ok rKp.th
        have k := k _ J h2 rKp.th.fr
        have hL := h2.2.2.1.2
        have e1 : qw I 105 0 (nI 0) 111 200 = nI s.2.length := hL.1
        have hv := hL.2 _ e he
        rw [Nat.zero_add, Nat.zero_add, Nat.zero_add] at hv
        refine w241 hsh (brN (nI_pos (by omega)) (brN (by rw [e1, nI_leI (by omega) (by omega)]; omega) (r_in rfl (by omega) (fun _ _ _ => ⟨_, rfl, br1 ⟨201 + 3 * (s.2.length - 1 - j) + w, ?_, by omega, ?_⟩⟩) (fun h0 => absurd rfl (h0 w hw)))))
        · rw [e1, pk_sub (by omega), pk_sub (by omega), pk_mul, nI_add, nI_add]
        · rcases (show w = 0 ∨ w = 1 ∨ w = 2 by omega) with rfl | rfl | rfl
          · rw [Nat.add_zero, hv.1]; exact k
          · rw [show 201 + 3 * (s.2.length - 1 - j) + 1 = 202 + 3 * (s.2.length - 1 - j) by omega, hv.2.1]; exact k
          · rw [show 201 + 3 * (s.2.length - 1 - j) + 2 = 203 + 3 * (s.2.length - 1 - j) by omega, hv.2.2]; exact k
    · refine ⟨-1000000, (t, p, M, s, hs, im, sc, rf), ok, fun d g I J Q h k => ?_, fun d g I J Q hsh h k => ?_⟩
      · have h : kI g I t p M s hs im sc rf := h
        have k := k g I J h (kFr.refl g I)
        have e1 : I 89 3 = nI s.2.length := h.2.2.2.2.2.1.2.1
        exact w117 h.1.1 (w86 (h.1.1.sta rfl (by omega)) (brN (nI_pos (by omega)) (brT (by rw [e1, nI_ltI (by omega) (by omega)]; exact hj) ⟨s.2.length - 1 - j, by rw [e1, pk_sub (by omega), pk_sub (by omega)], by omega, fun e => absurd e (hx2 0 (by omega)), fun e => absurd e (hx2 1 (by omega)), fun e => absurd e (hx2 2 (by omega)), fun _ => ⟨_, rfl, k⟩⟩)))
      · have h : rI I t p M s hs im sc rf := h
        have h2 := h.keep ok rKp.th
        have k := k _ J h2 rKp.th.fr
        have e1 : qw I 105 0 (nI 0) 111 200 = nI s.2.length := h2.2.2.1.2.1
        exact w241 hsh (brN (nI_pos (by omega)) (brN (by rw [e1, nI_leI (by omega) (by omega)]; omega) (r_in rfl (by omega) (fun w hw e => absurd e (hx2 w hw)) (fun _ => ⟨_, rfl, br0 k⟩))))
  · refine ⟨-1000000, (t, p, M, s, hs, im, sc, rf), ok, fun d g I J Q h k => ?_, fun d g I J Q hsh h k => ?_⟩
    · have h : kI g I t p M s hs im sc rf := h
      have k := k g I J h (kFr.refl g I)
      have e1 : I 89 3 = nI s.2.length := h.2.2.2.2.2.1.2.1
      refine w117 h.1.1 (w86 (h.1.1.sta rfl (by omega)) ?_)
      rw [e1]
      exact brI (by omega) (fun r hr e => absurd e (hx r hr)) (fun _ => ⟨⟨_, rfl, k⟩, ⟨_, rfl, k⟩⟩)
    · have h : rI I t p M s hs im sc rf := h
      have h2 := h.keep ok rKp.th
      have k := k _ J h2 rKp.th.fr
      have e1 : qw I 105 0 (nI 0) 111 200 = nI s.2.length := h2.2.2.1.2.1
      refine w241 hsh ?_
      rw [e1]
      exact brIge (by omega) (fun r hr e => absurd e (hx r hr)) (fun _ => ⟨k, k⟩)
theorem cnt0 {regs : Nat → Sr} (h : ∀ r, r < 8 → (regs r).1 = 0) : cntF (fullB regs) 8 = 0 := by
  have e : ∀ k, k ≤ 8 → cntF (fullB regs) k = 0 := by
    intro k
    induction k with
    | zero => intro _; rfl
    | succ k ih =>
      intro hk
      rw [cntF, if_neg (fun e => fullB_iff.mp e (h k (by omega))), ih (by omega)]
  exact e 8 (by omega)
theorem c_count (ok : okW p M s hs im sc) : bOK 131 266 [.int x1] (t, p, M, s, hs, im, sc, rf) := by
  rcases cls x1 5 (by omega) with ⟨w, hw, rfl⟩ | hx
  · refine ⟨if w = 0 then nI (cntF (fullB s.1) 8) else if w = 1 then nI sc.length else if w = 2 then nI t.length else if w = 3 then nI s.2.length else nI hs.length, (t, p, M, s, hs, im, sc, rf), ok, fun d g I J Q h k => ?_, fun d g I J Q hsh h k => ?_⟩
    · have h : kI g I t p M s hs im sc rf := h
      have k := k g I J h (kFr.refl g I)
      obtain ⟨nx, hH⟩ := h.2.2.2.2.2.2.1
      have s89 := h.1.1.sta (a := 89) rfl (by omega)
      refine w131 h.1.1 ?_
      rw [h.2.2.2.2.2.2.2.2.1.1, h.2.2.2.1.1, hH.2.2.1, show I 89 3 = nI s.2.length from h.2.2.2.2.2.1.2.1]
      rcases (show w = 0 ∨ w = 1 ∨ w = 2 ∨ w = 3 ∨ w = 4 by omega) with rfl | rfl | rfl | rfl | rfl
      · exact ⟨fun _ => k_fill8 s89 h.2.2.2.2.2.1.1 ok.bd.1.1 ⟨_, rfl, k⟩, fun e => absurd e (by decide +kernel), fun e => absurd e (by decide +kernel), fun e => absurd e (by decide +kernel), fun e => absurd e (by decide +kernel), fun e => absurd rfl e.1⟩
      · exact ⟨fun e => absurd e (by decide +kernel), fun _ => k, fun e => absurd e (by decide +kernel), fun e => absurd e (by decide +kernel), fun e => absurd e (by decide +kernel), fun e => absurd rfl e.2.1⟩
      · exact ⟨fun e => absurd e (by decide +kernel), fun e => absurd e (by decide +kernel), fun _ => k, fun e => absurd e (by decide +kernel), fun e => absurd e (by decide +kernel), fun e => absurd rfl e.2.2.1⟩
      · exact ⟨fun e => absurd e (by decide +kernel), fun e => absurd e (by decide +kernel), fun e => absurd e (by decide +kernel), fun _ => k, fun e => absurd e (by decide +kernel), fun e => absurd rfl e.2.2.2.1⟩
      · exact ⟨fun e => absurd e (by decide +kernel), fun e => absurd e (by decide +kernel), fun e => absurd e (by decide +kernel), fun e => absurd e (by decide +kernel), fun _ => k, fun e => absurd rfl e.2.2.2.2⟩
    · have h : rI I t p M s hs im sc rf := h
      have h2 := h.keep ok rKp.th
      have k := k _ J h2 rKp.th.fr
      obtain ⟨fs, hH⟩ := h2.2.2.2.1
      refine w266 hsh ?_
      rw [h2.2.2.2.2.2.1.1, h2.1.1, hH.2.2.1, show qw I 105 0 (nI 0) 111 200 = nI s.2.length from h2.2.2.1.2.1]
      rcases (show w = 0 ∨ w = 1 ∨ w = 2 ∨ w = 3 ∨ w = 4 by omega) with rfl | rfl | rfl | rfl | rfl
      · refine ⟨fun _ => h2.2.1.tt ok.p_lt (fun hp => ?_) (fun hp => r_many hsh h2.2.2.1.1 ok.bd.1.1 ⟨_, rfl, k⟩), fun e => absurd e (by decide +kernel), fun e => absurd e (by decide +kernel), fun e => absurd e (by decide +kernel), fun e => absurd e (by decide +kernel), fun e => absurd rfl e.1⟩
        rw [if_pos rfl, cnt0 (ok.l0 hp)] at k
        exact k
      · exact ⟨fun e => absurd e (by decide +kernel), fun _ => k, fun e => absurd e (by decide +kernel), fun e => absurd e (by decide +kernel), fun e => absurd e (by decide +kernel), fun e => absurd rfl e.2.1⟩
      · exact ⟨fun e => absurd e (by decide +kernel), fun e => absurd e (by decide +kernel), fun _ => k, fun e => absurd e (by decide +kernel), fun e => absurd e (by decide +kernel), fun e => absurd rfl e.2.2.1⟩
      · exact ⟨fun e => absurd e (by decide +kernel), fun e => absurd e (by decide +kernel), fun e => absurd e (by decide +kernel), fun _ => k, fun e => absurd e (by decide +kernel), fun e => absurd rfl e.2.2.2.1⟩
      · exact ⟨fun e => absurd e (by decide +kernel), fun e => absurd e (by decide +kernel), fun e => absurd e (by decide +kernel), fun e => absurd e (by decide +kernel), fun _ => k, fun e => absurd rfl e.2.2.2.2⟩
  · refine ⟨-1000000, (t, p, M, s, hs, im, sc, rf), ok, fun d g I J Q h k => ?_, fun d g I J Q hsh h k => ?_⟩
    · have h : kI g I t p M s hs im sc rf := h
      have k := k g I J h (kFr.refl g I)
      exact w131 h.1.1 ⟨fun e => absurd e (hx 0 (by omega)), fun e => absurd e (hx 1 (by omega)), fun e => absurd e (hx 2 (by omega)), fun e => absurd e (hx 3 (by omega)), fun e => absurd e (hx 4 (by omega)), fun _ => k⟩
    · have h : rI I t p M s hs im sc rf := h
      have h2 := h.keep ok rKp.th
      have k := k _ J h2 rKp.th.fr
      exact w266 hsh ⟨fun e => absurd e (hx 0 (by omega)), fun e => absurd e (hx 1 (by omega)), fun e => absurd e (hx 2 (by omega)), fun e => absurd e (hx 3 (by omega)), fun e => absurd e (hx 4 (by omega)), fun _ => k⟩
/-- how far two are alike -/
def alk (c e : Nat → Int) : Nat → Int := fun i => c i - e i
theorem k_alk_l (hs : qSh g) (hG : kG I 89 regs) (hok : okG p M regs) (hp : p < 998) (hr : r < 8) (hq : q < 8) {n : Nat} (hn : n ≤ (regs r).1 ∧ n ≤ (regs q).1) : ∀ f i, i + f = n → Q (some (.int (nI (odf (alk (regs r).2 (regs q).2) f i)))) g I J → qev (d + 1) 118 (23, [.ref 4, .int (nI r), .int (nI q), .int (nI n), .int (nI i)], [], g, I, J) Q
  | 0, i, hi, k => by
    have := (hok r hr).2.1
    exact w118_23 hs (brT (by rw [nI_leI (by omega) (by omega)]; omega) k)
  | f + 1, i, hi, k => by
    have h1 := (hok r hr).2
    have h2 := (hok q hq).2
    have h1l := h1.1
    have h2l := h2.1
    have s89 := hs.sta (a := 89) rfl (by omega)
    refine w118_23 hs (brN (by rw [nI_leI (by omega) (by omega)]; omega) (k_cell s89 hG hr (i := i) (by omega) (by omega) rfl rfl ⟨_, rfl, k_cell s89 hG hq (i := i) (by omega) (by omega) rfl rfl ⟨_, rfl, ?_⟩⟩))
    rw [iI_eq (by have := h1.2.1 i; omega) (by have := h2.2.1 i; omega)]
    by_cases e : (regs r).2 i = (regs q).2 i
    · refine brT e ?_
      rw [odf, if_pos (by unfold alk; omega)] at k
      rw [nI_add]
      exact k_alk_l hs hG hok hp hr hq hn f (i + 1) (by omega) k
    · rw [odf, if_neg (by unfold alk; omega)] at k
      exact brN e k
theorem r_alk_l (hs : qSh g) (hG : rG I 111 0 regs) (hok : okG p M regs) (hp : p < 998) (hr : r < 8) (hq : q < 8) {n : Nat} (hn : n ≤ (regs r).1 ∧ n ≤ (regs q).1) : ∀ f i, i + f = n → Q (some (.int (nI (odf (alk (regs r).2 (regs q).2) f i)))) g I J → qev (d + 1) 244 (48, [.ref 105, .int (nI r), .int (nI q), .int (nI n), .int (nI i)], [], g, I, J) Q
  | 0, i, hi, k => by
    have := (hok r hr).2.1
    exact w244_48 hs (brT (by rw [nI_leI (by omega) (by omega)]; omega) k)
  | f + 1, i, hi, k => by
    have h1 := (hok r hr).2
    have h2 := (hok q hq).2
    have h1l := h1.1
    have h2l := h2.1
    have g1 := (hG r hr).2 i (by omega)
    have g2 := (hG q hq).2 i (by omega)
    rw [Nat.zero_add] at g1 g2
    refine w244_48 hs (brN (by rw [nI_leI (by omega) (by omega)]; omega) ⟨25 * r + 1 + i, r25i r i, by omega, 25 * q + 1 + i, r25i q i, by omega, ?_⟩)
    rw [g1, g2, iI_eq (by have := h1.2.1 i; omega) (by have := h2.2.1 i; omega)]
    by_cases e : (regs r).2 i = (regs q).2 i
    · refine brT e ?_
      rw [odf, if_pos (by unfold alk; omega)] at k
      rw [nI_add]
      exact r_alk_l hs hG hok hp hr hq hn f (i + 1) (by omega) k
    · rw [odf, if_neg (by unfold alk; omega)] at k
      exact brN e k
theorem c_alike (ok : okW p M s hs im sc) : bOK 118 244 [.int x1, .int x2] (t, p, M, s, hs, im, sc, rf) := by
  have lb : ∀ x, lnr s.1 x ≤ 24 := fun x => by
    by_cases h : lnr s.1 x = 0
    · omega
    · obtain ⟨r, hr, rfl, _, _, _, _, h24⟩ := ok.full h
      rw [lnr_at hr]; exact h24
  have l1 := lb x1
  have l2 := lb x2
  by_cases hz : lnr s.1 x1 = 0 ∨ lnr s.1 x2 = 0
  · refine ⟨-1, (t, p, M, s, hs, im, sc, rf), ok, fun d g I J Q h k => ?_, fun d g I J Q hsh h k => ?_⟩
    · have h : kI g I t p M s hs im sc rf := h
      have k := k g I J h (kFr.refl g I)
      refine w118 h.1.1 (k_len h.1.1 h.2.2.2.2.2.1.1 ⟨_, rfl, k_len h.1.1 h.2.2.2.2.2.1.1 ⟨_, rfl, ?_⟩⟩)
      rw [qmin_nI (by omega) (by omega), show min (lnr s.1 x1) (lnr s.1 x2) = 0 by omega]
      exact br0 k
    · have h : rI I t p M s hs im sc rf := h
      have h2 := h.keep ok rKp.th
      have k := k _ J h2 rKp.th.fr
      exact w244 hsh (r_heldI hsh ok h2 (fun h1 => ⟨_, rfl, br1 (r_heldI hsh ok h2 (fun h3 => absurd hz (fun h4 => h4.elim h1 h3)) (fun _ => ⟨_, rfl, br0 k⟩))⟩) (fun _ => ⟨_, rfl, br0 k⟩))
  · have z1 : lnr s.1 x1 ≠ 0 := fun e => hz (Or.inl e)
    have z2 : lnr s.1 x2 ≠ 0 := fun e => hz (Or.inr e)
    obtain ⟨r, hr, rfl, hn, hp, ho, hM, h24⟩ := ok.full z1
    obtain ⟨q, hq, rfl, hn2, -, ho2, hM2, h242⟩ := ok.full z2
    have hG := (ok.ring hp).2.2.1.1
    refine ⟨nI (odf (alk (s.1 r).2 (s.1 q).2) (min (s.1 r).1 (s.1 q).1) 0), (t, p, M, s, hs, im, sc, rf), ok, fun d g I J Q h k => ?_, fun d g I J Q hsh h k => ?_⟩
    · have h : kI g I t p M s hs im sc rf := h
      have k := k g I J h (kFr.refl g I)
      refine w118 h.1.1 (k_len h.1.1 h.2.2.2.2.2.1.1 ⟨_, rfl, k_len h.1.1 h.2.2.2.2.2.1.1 ⟨_, rfl, ?_⟩⟩)
      rw [qmin_nI (by omega) (by omega), lnr_at hr, lnr_at hq, ← nI_0, nI_eq (by omega) (by omega)]
      exact brN (by omega) (k_alk_l h.1.1 h.2.2.2.2.2.1.1 hG ok.p_lt hr hq (by omega) (min (s.1 r).1 (s.1 q).1) 0 (by omega) k)
    · have h : rI I t p M s hs im sc rf := h
      have h2 := h.keep ok rKp.th
      have k := k _ J h2 rKp.th.fr
      have g1 := (h2.2.2.1.1 r hr).1
      have g2 := (h2.2.2.1.1 q hq).1
      rw [Nat.zero_add] at g1 g2
      refine w244 hsh (r_heldI hsh ok h2 (fun _ => ⟨_, rfl, br1 (r_heldI hsh ok h2 (fun _ => ⟨_, rfl, br1 ⟨25 * r, pk_mul 25 r, by omega, 25 * q, pk_mul 25 q, by omega, ?_⟩⟩) (fun h3 => absurd h3 z2))⟩) (fun h3 => absurd h3 z1))
      rw [g1, g2]
      exact r_least (by omega) (by omega) ⟨_, rfl, r_alk_l hsh h2.2.2.1.1 hG ok.p_lt hr hq (by omega) (min (s.1 r).1 (s.1 q).1) 0 (by omega) k⟩
end LOOKS
