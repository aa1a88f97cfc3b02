/-! calls: feed, end, rule, known, status, log -/
section CALLS1
variable {t : List Nat} {p M : Nat} {s : ST} {hs : List ST} {im : Option ST} {sc : SC} {rf : RF} {x1 x2 x3 x4 x5 x6 : Int32}
theorem c_feed (ok : okW p M s hs im sc) : bOK 99 151 [.int x1, .int x2, .int x3, .int x4, .int x5] (t, p, M, s, hs, im, sc, rf) := by
  by_cases hf : t.length + (by5 x1 x2 x3 x4 x5).length ≤ 320
  · refine ⟨nI (t ++ by5 x1 x2 x3 x4 x5).length, (t ++ by5 x1 x2 x3 x4 x5, p, M, s, hs, im, sc, rf), ok, fun d g I J Q h k => ?_, fun d g I J Q hsh h k => ?_⟩
    · have h : kI g I t p M s hs im sc rf := h
      exact k_feed h.1.1 h.2.2.2.1 (fun _ I' f1 T1 => k g I' J (h.tp f1.1 T1) (kFr.same (fun b hb => f1.1 b (by omega) (by omega)))) (fun h0 => absurd hf h0)
    · have h : rI I t p M s hs im sc rf := h
      refine r_feed hsh h.1 (fun _ I' f1 T1 => k I' J (h.tp ok (fun b b1 b2 => by rw [f1.1 b b1 b2, zu_a b1]) (fun q q1 q2 => by rw [f1.2 q q2, zu_k q1]) T1) (fun b hb => by rw [f1.1 b (by omega) (by omega), zu_a (by omega)])) (fun h0 => absurd hf h0)
  · refine ⟨-1, (t, p, M, s, hs, im, sc, rf), ok, fun d g I J Q h k => ?_, fun d g I J Q hsh h k => ?_⟩
    · have h : kI g I t p M s hs im sc rf := h
      exact k_feed h.1.1 h.2.2.2.1 (fun h0 => absurd h0 hf) (fun _ => k g I J h (kFr.refl g I))
    · have h : rI I t p M s hs im sc rf := h
      exact r_feed hsh h.1 (fun h0 => absurd h0 hf) (fun _ => k _ J (h.keep ok rKp.th) rKp.th.fr)
theorem kTp.cutT {I : qI} {n : Nat} (h : kTp t I) (hn : n ≤ t.length) : kTp (t.take n) (qw I 5 1 (nI n)) := by
  have lt : ∀ j, j < n → tb (t.take n) j = tb t j := fun j hj => by unfold tb; rw [List.getD_eq_getElem?_getD, List.getD_eq_getElem?_getD, List.getElem?_take_of_lt hj]
  have hl : (t.take n).length = n := by rw [List.length_take]; omega
  refine ⟨by rw [zu_s, hl], by rw [hl]; have := h.2.1; omega, fun j hj => ?_, fun j => ?_⟩
  · rw [hl] at hj
    rw [zu_a (by omega), lt j hj]; exact h.2.2.1 j (by omega)
  · by_cases hj : j < n
    · rw [lt j hj]; exact h.2.2.2 j
    · rw [tb_ge (by omega)]; omega
theorem rTp.cutT {I : qI} {n : Nat} (h : rTp t I) (hn : n ≤ t.length) : rTp (t.take n) (qw I 105 2 (nI n)) := by
  have lt : ∀ j, j < n → tb (t.take n) j = tb t j := fun j hj => by unfold tb; rw [List.getD_eq_getElem?_getD, List.getD_eq_getElem?_getD, List.getElem?_take_of_lt hj]
  have hl : (t.take n).length = n := by rw [List.length_take]; omega
  refine ⟨by rw [zu_s, hl], by rw [hl]; have := h.2.1; omega, fun j hj => ?_, fun j => ?_⟩
  · rw [hl] at hj
    rw [zu_a (by omega), lt j hj]; exact h.2.2.1 j (by omega)
  · by_cases hj : j < n
    · rw [lt j hj]; exact h.2.2.2 j
    · rw [tb_ge (by omega)]; omega
theorem c_end (ok : okW p M s hs im sc) (hl : t.length ≤ 320) : bOK 100 152 [.int x1] (t, p, M, s, hs, im, sc, rf) := by
  rcases cls x1 (t.length + 1) (by omega) with ⟨n, hn, rfl⟩ | hx
  · refine ⟨nI 1, (t.take n, p, M, s, hs, im, sc, rf), ok, fun d g I J Q h k => ?_, fun d g I J Q hsh h k => ?_⟩
    · have h : kI g I t p M s hs im sc rf := h
      refine w100 h.1.1 (brN (nI_pos (by omega)) (brT (by rw [h.2.2.2.1.1, nI_leI (by omega) (by omega)]; omega) (k g _ J (h.tp (fun b b1 b2 => zu_a b1) (h.2.2.2.1.cutT (by omega))) (kFr.same (fun b hb => zu_a (by omega))))))
    · have h : rI I t p M s hs im sc rf := h
      have h2 := h.keep ok rKp.th
      refine w152 hsh (brN (nI_pos (by omega)) (brT (by rw [h2.1.1, nI_leI (by omega) (by omega)]; omega) (k _ J (h2.tp ok (fun b b1 b2 => zu_a b1) (fun q q1 q2 => zu_k q2) (h2.1.cutT (by omega))) (fun b hb => by rw [zu_a (by omega), zu_a (by omega)]))))
  · refine ⟨nI 0, (t, p, M, s, hs, im, sc, rf), ok, fun d g I J Q h k => ?_, fun d g I J Q hsh h k => ?_⟩
    · have h : kI g I t p M s hs im sc rf := h
      have k := k g I J h (kFr.refl g I)
      refine w100 h.1.1 ?_
      rw [h.2.2.2.1.1]
      exact brIle (by omega) (fun r hr e => absurd e (hx r hr)) (fun _ => ⟨k, k⟩)
    · have h : rI I t p M s hs im sc rf := h
      have h2 := h.keep ok rKp.th
      have k := k _ J h2 rKp.th.fr
      refine w152 hsh ?_
      rw [h2.1.1]
      exact brIle (by omega) (fun r hr e => absurd e (hx r hr)) (fun _ => ⟨k, k⟩)
theorem c_rule (ok : okW p M s hs im sc) : bOK 103 222 [.int x1] (t, p, M, s, hs, im, sc, rf) := by
  refine ⟨if p = 0 then -1 else if x1 = nI 0 then iI p else if x1 = nI 1 then nI M else -1, (t, p, M, s, hs, im, sc, rf), ok, fun d g I J Q h k => ?_, fun d g I J Q hsh h k => ?_⟩
  · have h : kI g I t p M s hs im sc rf := h
    have hR := h.2.2.2.2.1
    have k := k g I J h (kFr.refl g I)
    refine w103 h.1.1 (hR.tt (fun hp => by rw [if_pos hp] at k; exact k) (fun hp => ?_))
    rw [if_neg hp] at k
    rw [(hR.2 hp).1, (hR.2 hp).2]
    refine brIle (by omega) (fun r hr e => ?_) (fun h0 => ?_)
    · rw [e] at k ⊢
      by_cases hr0 : r = 0
      · subst hr0; rw [if_pos rfl] at k; exact brT nI_0 k
      · have e1 : r = 1 := by omega
        subst e1; rw [if_neg (by decide +kernel), if_pos rfl] at k; exact brN (by decide +kernel) k
    · rw [if_neg (h0 0 (by omega)), if_neg (h0 1 (by omega))] at k; exact ⟨k, k⟩
  · have h : rI I t p M s hs im sc rf := h
    have h2 := h.keep ok rKp.th
    have hR := h2.2.1
    have k := k _ J h2 rKp.th.fr
    refine w222 hsh (hR.tt ok.p_lt (fun hp => by rw [if_pos hp] at k; exact k) (fun hp => ?_))
    rw [if_neg hp] at k
    rw [hR.1, hR.2 hp]
    refine r_in rfl (by omega) (fun r hr e => ⟨_, rfl, br1 ?_⟩) (fun h0 => ⟨_, rfl, br0 ?_⟩)
    · rw [e] at k ⊢
      by_cases hr0 : r = 0
      · subst hr0; rw [if_pos rfl] at k; exact brT nI_0 k
      · have e1 : r = 1 := by omega
        subst e1; rw [if_neg (by decide +kernel), if_pos rfl] at k; exact brN (by decide +kernel) k
    · rw [if_neg (h0 0 (by omega)), if_neg (h0 1 (by omega))] at k; exact k
theorem c_known (ok : okW p M s hs im sc) : bOK 107 223 [.int x1] (t, p, M, s, hs, im, sc, rf) := by
  by_cases hp : p = 0
  · refine ⟨-1, (t, p, M, s, hs, im, sc, rf), ok, fun d g I J Q h k => ?_, fun d g I J Q hsh h k => ?_⟩
    · have h : kI g I t p M s hs im sc rf := h
      exact w107 h.1.1 (h.2.2.2.2.1.tt (fun _ => k g I J h (kFr.refl g I)) (fun h0 => absurd hp h0))
    · have h : rI I t p M s hs im sc rf := h
      have h2 := h.keep ok rKp.th
      exact w223 hsh (r_rgs hsh h2.2.1 ok.p_lt (fun r hr e h0 => absurd hp h0) (fun _ => ⟨_, rfl, br0 (k _ J h2 rKp.th.fr)⟩))
  · rcases cls x1 8 (by omega) with ⟨r, hr, rfl⟩ | hx
    · refine ⟨nI (s.1 r).1, (t, p, M, s, hs, im, sc, rf), ok, fun d g I J Q h k => ?_, fun d g I J Q hsh h k => ?_⟩
      · have h : kI g I t p M s hs im sc rf := h
        have k := k g I J h (kFr.refl g I)
        refine w107 h.1.1 (h.2.2.2.2.1.tt (fun h0 => absurd h0 hp) (fun _ => brN (nI_pos (by omega)) (brT (by rw [nI_ltI (by omega) (by omega)]; exact hr) ⟨r, rfl, hr, ?_⟩)))
        rw [(h.2.2.2.2.2.1.1 r hr).1]; exact k
      · have h : rI I t p M s hs im sc rf := h
        have h2 := h.keep ok rKp.th
        have k := k _ J h2 rKp.th.fr
        have hG := (h2.2.2.1.1 r hr).1
        rw [show 0 + 25 * r = 25 * r by omega] at hG
        refine w223 hsh (r_rgs hsh h2.2.1 ok.p_lt (fun q hq e h0 => ⟨_, rfl, br1 ⟨25 * r, pk_mul 25 r, by omega, ?_⟩⟩) (fun h0 => ?_))
        · rw [hG]; exact k
        · rcases h0 with h0 | h0
          · exact absurd h0 hp
          · exact absurd rfl (h0 r hr)
    · refine ⟨-1, (t, p, M, s, hs, im, sc, rf), ok, fun d g I J Q h k => ?_, fun d g I J Q hsh h k => ?_⟩
      · have h : kI g I t p M s hs im sc rf := h
        have k := k g I J h (kFr.refl g I)
        exact w107 h.1.1 (h.2.2.2.2.1.tt (fun h0 => absurd h0 hp) (fun _ => brI (by omega) (fun r hr e => absurd e (hx r hr)) (fun _ => ⟨k, k⟩)))
      · have h : rI I t p M s hs im sc rf := h
        have h2 := h.keep ok rKp.th
        exact w223 hsh (r_rgs hsh h2.2.1 ok.p_lt (fun r hr e h0 => absurd e (hx r hr)) (fun _ => ⟨_, rfl, br0 (k _ J h2 rKp.th.fr)⟩))
theorem c_status (ok : okW p M s hs im sc) : bOK 115 239 [.int x1] (t, p, M, s, hs, im, sc, rf) := by
  rcases cls x1 6 (by omega) with ⟨r, hr, rfl⟩ | hx
  · refine ⟨rf r, (t, p, M, s, hs, im, sc, rf), ok, fun d g I J Q h k => ?_, fun d g I J Q hsh h k => ?_⟩
    · have h : kI g I t p M s hs im sc rf := h
      have k := k g I J h (kFr.refl g I)
      refine w115 h.1.1 (brN (nI_pos (by omega)) (brT (by rw [nI_ltI (by omega) (by omega)]; exact hr) ⟨r, rfl, hr, ?_⟩))
      rw [h.2.2.2.2.2.2.2.2.2 r hr]; exact k
    · have h : rI I t p M s hs im sc rf := h
      have h2 := h.keep ok rKp.th
      have k := k _ J h2 rKp.th.fr
      refine w239 hsh (r_in rfl (by omega) (fun q hq e => ⟨_, rfl, br1 ⟨r, rfl, hr, ?_⟩⟩) (fun h0 => absurd rfl (h0 r hr)))
      rw [h2.2.2.2.2.2.2 r hr]; exact k
  · refine ⟨-1, (t, p, M, s, hs, im, sc, rf), ok, fun d g I J Q h k => ?_, fun d g I J Q hsh h k => ?_⟩
    · have h : kI g I t p M s hs im sc rf := h
      have k := k g I J h (kFr.refl g I)
      exact w115 h.1.1 (brI (by omega) (fun r hr e => absurd e (hx r hr)) (fun _ => ⟨k, k⟩))
    · have h : rI I t p M s hs im sc rf := h
      have h2 := h.keep ok rKp.th
      exact w239 hsh (r_in rfl (by omega) (fun q hq e => absurd e (hx q hq)) (fun _ => ⟨_, rfl, br0 (k _ J h2 rKp.th.fr)⟩))
end CALLS1
