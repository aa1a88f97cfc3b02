/-! calls: fault, why, would -/
section READS
variable {d : Nat} {g g' : qG} {I I' : qI} {J J' : qJ} {Q : qQ} {t : List Nat} {p M : Nat} {s s' : ST} {hs hs' : List ST} {im im' : Option ST} {sc : SC} {rf : RF} {x1 : Int32}
theorem stepsP_ok (hl : t.length ≤ 320) : ∀ (f i : Nat) (acc : List SP), i ≤ t.length → (∀ q, q ∈ acc → okSP q) → match stepsP t f i acc with | .inl z => z ≤ t.length | .inr ss => acc.length < ss.length ∧ ss.length ≤ acc.length + f ∧ ∀ q, q ∈ ss → okSP q
  | 0, i, acc, hi, ha => hi
  | f + 1, i, acc, hi, ha => by
    have hok := stepP_ok hi
    unfold stepsP
    cases hr : stepP t i with
    | inl z => rw [hr] at hok; exact hok
    | inr q =>
      obtain ⟨i1, s1⟩ := q
      rw [hr] at hok
      obtain ⟨o1, o2, o3, o4, o5, o6⟩ := hok
      dsimp only at o1 o2 o3 o4 o5 o6 ⊢
      have hacc : ∀ q, q ∈ acc ++ [s1] → okSP q := fun q hq => by
        rcases List.mem_append.mp hq with h | h
        · exact ha q h
        · rw [List.mem_singleton.mp h]; exact ⟨o3, o4, o6 hl⟩
      by_cases h0 : tb t (sk t i1) = 0
      · rw [if_pos h0]
        exact ⟨by rw [List.length_append]; show acc.length < acc.length + 1; omega, by rw [List.length_append]; show acc.length + 1 ≤ _; omega, hacc⟩
      · rw [if_neg h0]
        by_cases hf : f = 0
        · rw [if_pos hf]; exact sk_L o2
        · rw [if_neg hf]
          have hg := sg_ok (t := t) (c := 59) o2 (by omega)
          cases hz : sg t 59 i1 with
          | inl z =>
            unfold sg at hz
            by_cases h59 : tb t (sk t i1) = 59
            · rw [if_pos h59] at hz; cases hz
            · rw [if_neg h59] at hz; cases hz; exact sk_L o2
          | inr j =>
            have hj : j ≤ t.length := by
              unfold sg at hz
              by_cases h59 : tb t (sk t i1) = 59
              · rw [if_pos h59] at hz
                cases hz
                by_cases h3 : sk t i1 < t.length
                · omega
                · rw [tb_ge (by omega)] at h59; omega
              · rw [if_neg h59] at hz; cases hz
            have ih := stepsP_ok hl f j (acc ++ [s1]) hj hacc
            dsimp only
            cases he : stepsP t f j (acc ++ [s1]) with
            | inl z => rw [he] at ih; exact ih
            | inr ss =>
              rw [he] at ih
              obtain ⟨q1, q2, q3⟩ := ih
              rw [List.length_append] at q1 q2
              exact ⟨by have : [s1].length = 1 := rfl; omega, by have : [s1].length = 1 := rfl; omega, q3⟩
theorem kI.gf (h : kI g I t p M s hs im sc rf) (f : kGF I I') : kI g I' t p M s hs im sc rf ∧ kFr g g I I' := ⟨h.keep ⟨fun b hb => f b (by omega), by rw [f 4 (by omega)], by rw [f 4 (by omega)], by rw [f 4 (by omega)], by rw [f 8 (by omega)]⟩, kFr.same (fun b hb => f b (by omega))⟩
theorem kI.sf (h : kI g I t p M s hs im sc rf) (f : kSF I I') : kI g I' t p M s hs im sc rf ∧ kFr g g I I' := by
  have f1 : ∀ b, b ≠ 7 → b ≠ 8 → b ≠ 9 → b ≠ 10 → b ≠ 11 → I' b = I b := f.1
  exact ⟨h.keep ⟨fun b hb => f1 b (by omega) (by omega) (by omega) (by omega) (by omega), by rw [f1 4 (by omega) (by omega) (by omega) (by omega) (by omega)], by rw [f1 4 (by omega) (by omega) (by omega) (by omega) (by omega)], by rw [f1 4 (by omega) (by omega) (by omega) (by omega) (by omega)], f.2.1⟩, kFr.same (fun b hb => f1 b (by omega) (by omega) (by omega) (by omega) (by omega))⟩
theorem rRF.kp (f : rRF I I') : rKp I I' := ⟨fun b b1 b2 b3 b4 b5 b6 b7 b8 b9 => f.1 b b1 b2 b3 b4 b5, fun q hq => f.2.1 q (by omega) (by omega) (by omega) (by omega) (by omega) (by omega) (by omega) (by omega), f.2.2.2.1, f.2.2.2.2.1, fun j hj => f.2.2.2.2.2 j (by omega)⟩
theorem c_fault (ok : okW p M s hs im sc) : bOK 101 174 [.int x1] (t, p, M, s, hs, im, sc, rf) := by
  rcases cls x1 3 (by omega) with ⟨r, hr, rfl⟩ | hx
  · have K : ∀ (d : Nat) (g : qG) (I : qI) (J : qJ) (Q : qQ), kI g I t p M s hs im sc rf → qC (d + 89) 48 [.ref 11, .int (nI r)] g I J (fun v _ I1 _ => ∃ r1, v = some (.int r1) ∧ Q (some (.int r1)) g I1 J) → qC (d + 90) 101 [.ref 4, .int (nI r)] g I J Q := fun d g I J Q h k => w101 h.1.1 (brN (nI_pos (by omega)) (brT (by rw [nI_leI (by omega) (by omega)]; omega) k))
    rcases (show r = 0 ∨ r = 1 ∨ r = 2 by omega) with rfl | rfl | rfl
    · cases e : ringP t with
      | inl z =>
        refine ⟨nI z, (t, p, M, s, hs, im, sc, rf), ok, fun d g I J Q h k => ?_, fun d g I J Q hsh h k => ?_⟩
        · have h : kI g I t p M s hs im sc rf := h
          exact K d g I J Q h (k_fault0 h.1.1 h.2.2.2.1 (by rw [e]; exact fun I1 f => ⟨_, rfl, k g I1 J (h.gf f).1 (h.gf f).2⟩))
        · have h : rI I t p M s hs im sc rf := h
          exact r_fault0 hsh h.1 (by rw [e]; exact fun I1 f => k I1 J (h.keep ok f.kp) f.kp.fr)
      | inr q =>
        refine ⟨-1, (t, p, M, s, hs, im, sc, rf), ok, fun d g I J Q h k => ?_, fun d g I J Q hsh h k => ?_⟩
        · have h : kI g I t p M s hs im sc rf := h
          exact K d g I J Q h (k_fault0 h.1.1 h.2.2.2.1 (by rw [e]; exact fun I1 f _ _ => ⟨_, rfl, k g I1 J (h.gf f).1 (h.gf f).2⟩))
        · have h : rI I t p M s hs im sc rf := h
          exact r_fault0 hsh h.1 (by rw [e]; exact fun I1 f _ _ => k I1 J (h.keep ok f.kp) f.kp.fr)
    · cases e : stepsP t 8 0 [] with
      | inl z =>
        refine ⟨nI z, (t, p, M, s, hs, im, sc, rf), ok, fun d g I J Q h k => ?_, fun d g I J Q hsh h k => ?_⟩
        · have h : kI g I t p M s hs im sc rf := h
          exact K d g I J Q h (k_fault1 h.1.1 h.2.2.2.1 h.2.2.1 (Or.inl ⟨rfl, rfl⟩) (by rw [e]; exact fun I1 f => ⟨_, rfl, k g I1 J (h.sf f).1 (h.sf f).2⟩))
        · have h : rI I t p M s hs im sc rf := h
          exact r_fault1 hsh h.1 (by rw [e]; exact fun I1 f => k I1 J (h.keep ok f.kp) f.kp.fr)
      | inr q =>
        refine ⟨-1, (t, p, M, s, hs, im, sc, rf), ok, fun d g I J Q h k => ?_, fun d g I J Q hsh h k => ?_⟩
        · have h : kI g I t p M s hs im sc rf := h
          exact K d g I J Q h (k_fault1 h.1.1 h.2.2.2.1 h.2.2.1 (Or.inl ⟨rfl, rfl⟩) (by rw [e]; exact fun I1 f _ => ⟨_, rfl, k g I1 J (h.sf f).1 (h.sf f).2⟩))
        · have h : rI I t p M s hs im sc rf := h
          exact r_fault1 hsh h.1 (by rw [e]; exact fun I1 f _ _ => k I1 J (h.keep ok f.kp) f.kp.fr)
    · cases e : stepsP t 1 0 [] with
      | inl z =>
        refine ⟨nI z, (t, p, M, s, hs, im, sc, rf), ok, fun d g I J Q h k => ?_, fun d g I J Q hsh h k => ?_⟩
        · have h : kI g I t p M s hs im sc rf := h
          exact K d g I J Q h (k_fault1 h.1.1 h.2.2.2.1 h.2.2.1 (Or.inr ⟨rfl, rfl⟩) (by rw [e]; exact fun I1 f => ⟨_, rfl, k g I1 J (h.sf f).1 (h.sf f).2⟩))
        · have h : rI I t p M s hs im sc rf := h
          exact r_fault2 hsh h.1 (by rw [e]; exact fun I1 f => k I1 J (h.keep ok f.kp) f.kp.fr)
      | inr q =>
        refine ⟨-1, (t, p, M, s, hs, im, sc, rf), ok, fun d g I J Q h k => ?_, fun d g I J Q hsh h k => ?_⟩
        · have h : kI g I t p M s hs im sc rf := h
          exact K d g I J Q h (k_fault1 h.1.1 h.2.2.2.1 h.2.2.1 (Or.inr ⟨rfl, rfl⟩) (by rw [e]; exact fun I1 f _ => ⟨_, rfl, k g I1 J (h.sf f).1 (h.sf f).2⟩))
        · have h : rI I t p M s hs im sc rf := h
          exact r_fault2 hsh h.1 (by rw [e]; exact fun I1 f _ _ => k I1 J (h.keep ok f.kp) f.kp.fr)
  · refine ⟨-2, (t, p, M, s, hs, im, sc, rf), ok, fun d g I J Q h k => ?_, fun d g I J Q hsh h k => ?_⟩
    · have h : kI g I t p M s hs im sc rf := h
      have k := k g I J h (kFr.refl g I)
      exact w101 h.1.1 (brIle (by omega) (fun r hr e => absurd e (hx r hr)) (fun _ => ⟨k, k⟩))
    · have h2 := rI.keep h ok rKp.th
      exact w174 hsh (r_in rfl (by omega) (fun q hq e => absurd e (hx q hq)) (fun _ => ⟨_, rfl, br0 (k _ J h2 rKp.th.fr)⟩))
/-! the STEP on the TAPE: its REASON, its REGISTER, its codes -/
def tR (t : List Nat) (p M : Nat) (s : ST) : Int × SP := if p = 0 then (0, 0, []) else match stepsP t 1 0 [] with
  | .inl _ => (1, 0, [])
  | .inr [] => (1, 0, [])
  | .inr (q :: _) => ((xRun p M s.1 q.2 []).1, q)
def tSr (t : List Nat) (p M : Nat) (s : ST) : Sr := (xRun p M s.1 (tR t p M s).2.2 []).2
theorem tR_0 (hp : p = 0) : tR t p M s = (0, 0, []) := if_pos hp
theorem tR_f (hp : p ≠ 0) {z : Nat} (e : stepsP t 1 0 [] = .inl z) : tR t p M s = (1, 0, []) := by
  unfold tR
  rw [if_neg hp, e]
theorem tR_s (hp : p ≠ 0) {q : SP} (e : stepsP t 1 0 [] = .inr [q]) : tR t p M s = ((xRun p M s.1 q.2 []).1, q) := by
  unfold tR
  rw [if_neg hp, e]
theorem one_sp (hl : t.length ≤ 320) {ss : List SP} (e : stepsP t 1 0 [] = .inr ss) : ∃ q, ss = [q] ∧ okSP q := by
  have h := stepsP_ok hl 1 0 [] (Nat.zero_le _) (fun q hq => (by cases hq))
  rw [e] at h
  obtain ⟨h1, h2, h3⟩ := h
  match ss, h1, h2, h3 with
  | [q], _, _, h3 => exact ⟨q, rfl, h3 q (List.mem_singleton.mpr rfl)⟩
  | q :: r :: l, _, h2, _ => have h2 : l.length + 1 + 1 ≤ 0 + 1 := h2; omega
theorem tR_bd : -1 ≤ (tR t p M s).1 ∧ (tR t p M s).1 ≤ 5 := by
  unfold tR
  split
  · exact ⟨by show (-1 : Int) ≤ 0; omega, by show (0 : Int) ≤ 5; omega⟩
  · split
    · exact ⟨by show (-1 : Int) ≤ 1; omega, by show (1 : Int) ≤ 5; omega⟩
    · exact ⟨by show (-1 : Int) ≤ 1; omega, by show (1 : Int) ≤ 5; omega⟩
    · exact why_bd _ _
theorem tR_ok (ok : okW p M s hs im sc) (hl : t.length ≤ 320) (h : (tR t p M s).1 = -1) : p ≠ 0 ∧ okSP (tR t p M s).2 ∧ okR p M (tSr t p M s) ∧ (xRun p M s.1 (tR t p M s).2.2 []).1 = -1 := by
  by_cases hp : p = 0
  · rw [tR_0 hp] at h; exact absurd h (by show ¬ ((0 : Int) = -1); omega)
  · cases e : stepsP t 1 0 [] with
    | inl z => rw [tR_f hp e] at h; exact absurd h (by show ¬ ((1 : Int) = -1); omega)
    | inr ss =>
      obtain ⟨q, rfl, hq⟩ := one_sp hl e
      unfold tSr
      rw [tR_s hp e] at h ⊢
      have hR := ok.ring hp
      exact ⟨hp, hq, xRun_ok hR.1 hR.2.1 hR.2.2.1.1 q.2 [] hq.2.1.1 hq.2.1.2 (fun f hf => (by cases hf)) h, h⟩
theorem kI.wf (h : kI g I t p M s hs im sc rf) (f : kWF I I') : kI g I' t p M s hs im sc rf ∧ kFr g g I I' := by
  have f1 : ∀ b, (b < 13 ∨ (24 ≤ b ∧ b < 33) ∨ b = 34 ∨ 83 ≤ b) → I' b = I b := f
  exact ⟨h.keep ⟨fun b hb => f1 b (by omega), by rw [f1 4 (by omega)], by rw [f1 4 (by omega)], by rw [f1 4 (by omega)], by rw [f1 8 (by omega)]⟩, kFr.same (fun b hb => f1 b (by omega))⟩
theorem rWF.kp (f : rWF I I') : rKp I I' := ⟨fun b b1 b2 b3 b4 b5 b6 b7 b8 b9 => f.1 b b7 b1, fun q hq => f.2 q (by omega), fun j _ => ⟨by rw [f.1 107 (by omega) (by omega)], by rw [f.1 108 (by omega) (by omega)]⟩, fun j _ => by rw [f.1 109 (by omega) (by omega)], fun j _ => by rw [f.1 110 (by omega) (by omega)]⟩
theorem k_reason (ok : okW p M s hs im sc) (h : kI g I t p M s hs im sc rf) (k : ∀ I', kI g I' t p M s hs im sc rf → kFr g g I I' → ((tR t p M s).1 = -1 → kS I' 35 (tSr t p M s).1 (tSr t p M s).2 ∧ I' 9 0 = nI (tR t p M s).2.1) → Q (some (.int (iI (tR t p M s).1))) g I' J) : qC (d + 68) 138 [.ref 4] g I J Q := by
  have hl := h.2.2.2.1.2.1
  by_cases hp : p = 0
  · have k := k I h (kFr.refl g I) (fun h0 => by rw [tR_0 hp] at h0; exact absurd h0 (by show ¬ ((0 : Int) = -1); omega))
    rw [tR_0 hp, ← iI_z0, ← nI_0] at k
    exact w138 h.1.1 (h.2.2.2.2.1.tt (fun _ => k) (fun h0 => absurd hp h0))
  · refine w138 h.1.1 (h.2.2.2.2.1.tt (fun h0 => absurd h0 hp) (fun _ => ?_))
    refine k_fault1 h.1.1 h.2.2.2.1 h.2.2.1 (Or.inr ⟨rfl, rfl⟩) ?_
    cases e : stepsP t 1 0 [] with
    | inl z =>
      have hz : z ≤ t.length := by
        have h := stepsP_ok hl 1 0 [] (Nat.zero_le _) (fun q hq => (by cases hq))
        rw [e] at h; exact h
      intro I1 f
      have k := k I1 (h.sf f).1 (h.sf f).2 (fun h0 => by rw [tR_f hp e] at h0; exact absurd h0 (by show ¬ ((1 : Int) = -1); omega))
      rw [tR_f hp e] at k
      rw [nI_iI 1]
      exact ⟨_, rfl, brN (m1_ne (by omega)) k⟩
    | inr ss =>
      obtain ⟨q, rfl, hq⟩ := one_sp hl e
      intro I1 f c1
      have h1 := (h.sf f).1
      have hR := ok.ring hp
      refine ⟨_, rfl, brT rfl (k_work h1.1.1 h1.1.1.draft (Or.inl rfl) (h1.2.2.2.2.1.R ok hp) (h1.1.1.sta rfl (by omega)) (by omega) h1.2.2.2.2.2.1.1 hR.2.2.1.1 (kCode.ops c1 (by omega) (j := 0) rfl) hq.2.1 (fun I2 s2 f2 => ⟨_, rfl, ?_⟩))⟩
      have k := k I2 (h1.wf f2).1 ((h.sf f).2.then (h1.wf f2).2.1) (fun h0 => ?_)
      · rw [tR_s hp e] at k; exact k
      · unfold tSr
        rw [tR_s hp e] at h0 ⊢
        exact ⟨s2 h0, by rw [f2 9 (by omega)]; exact c1.2.2.2.2.2.1 0 q rfl⟩
theorem r_reason (hsh : qSh g) (ok : okW p M s hs im sc) (h : rI I t p M s hs im sc rf) (k : ∀ I', rI I' t p M s hs im sc rf → rKp I I' → ((tR t p M s).1 = -1 → rS I' 0 (tSr t p M s).1 (tSr t p M s).2 ∧ I' 107 40 = nI (tR t p M s).2.1 ∧ rOps I' 40 (tR t p M s).2.2) → Q (some (.int (iI (tR t p M s).1))) g I' J) : qC (d + 61) 218 [.ref 105] g I J Q := by
  have hl := h.1.2.1
  by_cases hp : p = 0
  · have k := k I h (rKp.refl I) (fun h0 => by rw [tR_0 hp] at h0; exact absurd h0 (by show ¬ ((0 : Int) = -1); omega))
    rw [tR_0 hp, ← iI_z0, ← nI_0] at k
    exact w218 hsh (h.2.1.tt ok.p_lt (fun _ => k) (fun h0 => absurd hp h0))
  · refine w218 hsh (h.2.1.tt ok.p_lt (fun h0 => absurd h0 hp) (fun _ => ?_))
    refine r_fault2 hsh h.1 ?_
    cases e : stepsP t 1 0 [] with
    | inl z =>
      have hz : z ≤ t.length := by
        have h := stepsP_ok hl 1 0 [] (Nat.zero_le _) (fun q hq => (by cases hq))
        rw [e] at h; exact h
      intro I1 f
      have k := k I1 (h.keep ok f.kp) f.kp (fun h0 => by rw [tR_f hp e] at h0; exact absurd h0 (by show ¬ ((1 : Int) = -1); omega))
      rw [tR_f hp e] at k
      rw [nI_iI 1]
      exact ⟨_, rfl, brN (m1_ne (by omega)) k⟩
    | inr ss =>
      obtain ⟨q, rfl, hq⟩ := one_sp hl e
      intro I1 f c1 _
      have h1 := h.keep ok f.kp
      have hR := ok.ring hp
      have c2 := c1 0 q rfl
      refine ⟨_, rfl, brT rfl (r_work hsh (h1.2.1.R ok hp) (hsh.k rfl) (by omega) (by omega) h1.2.2.1.1 hR.2.2.1.1 (pl := 40) (by omega) c2.2 hq.2.1 (fun I2 s2 f2 => ⟨_, rfl, ?_⟩))⟩
      have k := k I2 (h1.keep ok f2.kp) (f.kp.trans f2.kp) (fun h0 => ?_)
      · rw [tR_s hp e] at k; exact k
      · unfold tSr
        rw [tR_s hp e] at h0 ⊢
        exact ⟨s2 h0, by rw [f2.1 107 (by omega) (by omega)]; exact c2.1, c2.2.keepS (by rw [f2.1 108 (by omega) (by omega)]) (fun j _ _ => by rw [f2.1 109 (by omega) (by omega)])⟩
theorem c_why (ok : okW p M s hs im sc) : bOK 106 221 [] (t, p, M, s, hs, im, sc, rf) := by
  refine ⟨iI (tR t p M s).1, (t, p, M, s, hs, im, sc, rf), ok, fun d g I J Q h k => ?_, fun d g I J Q hsh h k => ?_⟩
  · have h : kI g I t p M s hs im sc rf := h
    exact w106 h.1.1 (k_reason ok h (fun I1 h1 f1 _ => ⟨_, rfl, k g I1 J h1 f1⟩))
  · have h2 := rI.keep h ok rKp.th
    exact w221 hsh (r_reason hsh ok h2 (fun I1 h1 f1 _ => ⟨_, rfl, k I1 J h1 (rKp.trans rKp.th f1).fr⟩))
theorem c_would (ok : okW p M s hs im sc) (hl : t.length ≤ 320) : bOK 105 220 [.int x1] (t, p, M, s, hs, im, sc, rf) := by
  by_cases hr : (tR t p M s).1 = -1
  · obtain ⟨hp, hq, hf, -⟩ := tR_ok ok hl hr
    have h24 := hf.2.2.1
    have h1n := hf.1
    have K : ∀ (d : Nat) (g : qG) (I : qI) (J : qJ) (Q : qQ), kI g I t p M s hs im sc rf → (∀ I', kI g I' t p M s hs im sc rf → kFr g g I I' → kS I' 35 (tSr t p M s).1 (tSr t p M s).2 → ((x1 = (-1) → Q (some (.int (nI (tSr t p M s).1))) g I' J) ∧ (¬ x1 = (-1) → ((x1 < 0 → Q (some (.int (-1000000))) g I' J) ∧ (¬ x1 < 0 → ((x1 < nI (tSr t p M s).1 → ∃ k1, x1 = nI k1 ∧ k1 < 24 ∧ Q (some (.int (I' 36 k1))) g I' J) ∧ (¬ x1 < nI (tSr t p M s).1 → Q (some (.int (-1000000))) g I' J)))))) ) → qC (d + 90) 105 [.ref 4, .int x1] g I J Q := by
      intro d g I J Q h k
      refine w105 h.1.1 (k_reason ok h (fun I1 h1 f1 s1 => ⟨_, rfl, brT (by rw [hr]; exact iI_zm1.symm) (w42 h.1.1 ⟨_, rfl, ?_⟩)⟩))
      obtain ⟨k1, k2⟩ := k I1 h1 f1 (s1 hr).1
      have s2 := (s1 hr).1.1
      have x35 := h.1.1.ser (a := 35) rfl (by omega)
      refine ⟨fun e => ⟨35, rfl, x35, ?_⟩, fun e => ⟨(k2 e).1, fun e2 => ⟨35, rfl, x35, ?_⟩⟩⟩
      · rw [s2]; exact k1 e
      · rw [s2]; exact (k2 e).2 e2
    have R : ∀ (d : Nat) (g : qG) (I : qI) (J : qJ) (Q : qQ), qSh g → rI I t p M s hs im sc rf → (∀ I', rI I' t p M s hs im sc rf → rFw I I' → rS I' 0 (tSr t p M s).1 (tSr t p M s).2 → ((x1 = (-1) → Q (some (.int (nI (tSr t p M s).1))) g I' J) ∧ (¬ x1 = (-1) → qC (d + 89) 147 [.long (Int32.toInt64 x1), .long (lN 0), .long (lN ((tSr t p M s).1 - 1))] g I' J (fun v _ _ _ => ∃ r3, v = some (.int r3) ∧ ((r3 = 0 → Q (some (.int (-1000000))) g I' J) ∧ (¬ r3 = 0 → qC (d + 89) 182 [.ref 105, .int (nI 0), .int x1] g I' J (fun v _ _ _ => ∃ r4, v = some (.int r4) ∧ Q (some (.int r4)) g I' J))))))) → qC (d + 90) 220 [.ref 105, .int x1] g I J Q := by
      intro d g I J Q hsh h k
      have h2 := h.keep ok rKp.th
      refine w220 hsh (r_reason hsh ok h2 (fun I1 h1 f1 s1 => ⟨_, rfl, brT (by rw [hr]; exact iI_zm1.symm) ?_⟩))
      obtain ⟨k1, k2⟩ := k I1 h1 (rKp.trans rKp.th f1).fr (s1 hr).1
      refine ⟨fun e => r_len hsh (by omega) (s1 hr).1.1 ⟨_, rfl, k1 e⟩, fun e => r_len hsh (by omega) (s1 hr).1.1 ⟨_, rfl, ?_⟩⟩
      rw [pk_sub (by omega), nI_lN (by omega)]
      exact k2 e
    by_cases h1 : x1 = -1
    · refine ⟨nI (tSr t p M s).1, (t, p, M, s, hs, im, sc, rf), ok, fun d g I J Q h k => ?_, fun d g I J Q hsh h k => ?_⟩
      · exact K d g I J Q h (fun I1 h2 f1 _ => brT h1 (k g I1 J h2 f1))
      · exact R d g I J Q hsh h (fun I1 h2 f1 _ => brT h1 (k I1 J h2 f1))
    · rcases cls x1 (tSr t p M s).1 (by omega) with ⟨i, hi, rfl⟩ | hx
      · refine ⟨iI ((tSr t p M s).2 i), (t, p, M, s, hs, im, sc, rf), ok, fun d g I J Q h k => ?_, fun d g I J Q hsh h k => ?_⟩
        · refine K d g I J Q h (fun I1 h2 f1 s1 => brN h1 (brN (nI_pos (by omega)) (brT (by rw [nI_ltI (by omega) (by omega)]; exact hi) ⟨i, rfl, by omega, ?_⟩)))
          rw [s1.2 i hi]
          exact k g I1 J h2 f1
        · exact R d g I J Q hsh h (fun I1 h2 f1 s1 => brN h1 (r_in rfl (by omega) (fun _ _ _ => ⟨_, rfl, br1 (r_c' hsh (by omega) s1 hf.2.2 (i := i) (by omega) rfl ⟨_, rfl, k I1 J h2 f1⟩)⟩) (fun h0 => absurd rfl (h0 i (by omega)))))
      · refine ⟨-1000000, (t, p, M, s, hs, im, sc, rf), ok, fun d g I J Q h k => ?_, fun d g I J Q hsh h k => ?_⟩
        · refine K d g I J Q h (fun I1 h2 f1 s1 => brN h1 ?_)
          have k := k g I1 J h2 f1
          exact brI (by omega) (fun i hi e => absurd e (hx i hi)) (fun _ => ⟨k, k⟩)
        · exact R d g I J Q hsh h (fun I1 h2 f1 s1 => brN h1 (r_in rfl (by omega) (fun i hi e => absurd e (hx i (by omega))) (fun _ => ⟨_, rfl, br0 (k I1 J h2 f1)⟩)))
  · have hne : ¬ iI (tR t p M s).1 = -1 := fun e => hr ((iI_neg1 tR_bd).mp e)
    refine ⟨-1000000, (t, p, M, s, hs, im, sc, rf), ok, fun d g I J Q h k => ?_, fun d g I J Q hsh h k => ?_⟩
    · have h : kI g I t p M s hs im sc rf := h
      exact w105 h.1.1 (k_reason ok h (fun I1 h1 f1 _ => ⟨_, rfl, brN hne (k g I1 J h1 f1)⟩))
    · have h2 := rI.keep h ok rKp.th
      exact w220 hsh (r_reason hsh ok h2 (fun I1 h1 f1 _ => ⟨_, rfl, brN hne (k I1 J h1 (rKp.trans rKp.th f1).fr)⟩))
end READS
