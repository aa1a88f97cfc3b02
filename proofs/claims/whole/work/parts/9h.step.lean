/-! calls: step -/
section STEPS
variable {d : Nat} {g g' : qG} {I I' : qI} {J J' : qJ} {Q : qQ} {t : List Nat} {p M : Nat} {s s' : ST} {hs hs' : List ST} {im im' : Option ST} {sc : SC} {rf : RF} {x1 : Int32}
/-- behind a STEP that was kept -/
def kF4 (g g' : qG) (I I' : qI) (J J' : qJ) : Prop := (∀ b, (b < 89 ∨ (105 ≤ b ∧ b < 120)) → I' b = I b) ∧ gGrow g g' ∧ (g'.2.2.1 ≤ g.2.2.1 + 4 ∧ g'.2.2.2 ≤ g.2.2.2 + 264) ∧ ∀ b, b < 120 → J' b = J b
theorem kF4.fr (f : kF4 g g' I I' J J') : kFr g g' I I' := ⟨fun b hb => f.1 b (by omega), f.2.1, by have := f.2.2.1.1; omega, by have := f.2.2.1.2; omega⟩
theorem k_settle (ok : okW p M s hs im sc) (hp : p ≠ 0) (h : kI g I t p M s hs im sc rf) {f : Sr} (hf : okR p M f) (s35 : kS I 35 f.1 f.2) {r : Nat} (hr : r < 8) {x : Int32} (hx : x = nI r) (k : ∀ g' I' J', kI g' I' t p M (dn s r f) (pushH hs s) im sc rf → kF4 g g' I I' J J' → Q (some (.int (nI f.1))) g' I' J') : qC (d + 2) 139 [.ref 4, .int x] g I J Q := by
  subst hx
  have hR := ok.ring hp
  have h24 := hf.2.2.1
  have eup : up s.1 r f r = f := if_pos rfl
  refine w139 h.1.1 (k_kept ok h (fun g1 I1 J1 h1 F => ⟨rfl, h1.1.1, w42 h1.1.1 ⟨_, rfl, 35, rfl, h1.1.1.ser rfl (by omega), ?_⟩⟩))
  have s89 := h1.1.1.sta (a := 89) rfl (by omega)
  refine k_store s89 (h1.1.1.ser (a := 35) rfl (by omega)) (by omega) h1.2.2.2.2.2.1 (s35.frame (F.1 35 (by omega) (by omega)) (F.1 36 (by omega) (by omega))) h24 ok.bd.1.1 hr (fun I2 S2 f2 => ⟨rfl, ?_⟩)
  refine k_note s89 S2 hR.2.2.1.2 hr (by omega) (by dsimp only; rw [eup]; exact h24) (fun I3 S3 f3 => ⟨rfl, r, rfl, hr, ?_⟩)
  dsimp only at S3
  rw [eup] at S3
  have e9 := (S3.1 r hr).1
  dsimp only at e9
  rw [eup] at e9
  rw [e9]
  have f4 : ∀ b, (b < 89 ∨ 92 < b) → I3 b = I1 b := fun b hb => by rw [f3 b (by omega) (by omega), f2 b (by omega) (by omega)]
  exact k g1 I3 J1 (h1.st f4 S3) ⟨fun b hb => by rw [f4 b (by omega), F.1 b (by omega) (by omega)], F.2⟩
theorem r_tryI (hsh : qSh g) (ok : okW p M s hs im sc) (hp : p ≠ 0) (h : rI I t p M s hs im sc rf) {q : SP} (hq : okSP q) (h107 : I 107 40 = nI q.1) (hO : rOps I 40 q.2) (k0 : (xRun p M s.1 q.2 []).1 ≠ -1 → ∀ I', rI I' t p M s hs im sc rf → rFw I I' → Q (some (.int (iI (xRun p M s.1 q.2 []).1))) g I' J) (k1 : (xRun p M s.1 q.2 []).1 = -1 → ∀ I', rI I' t p M (dn s q.1 (xRun p M s.1 q.2 []).2) (pushH hs s) im sc rf → rFw I I' → I' 107 = I 107 → Q (some (.int (-1))) g I' J) : qC (d + 8) 217 [.ref 105, .int (nI 40)] g I J Q := by
  have hR := ok.ring hp
  have hb := why_bd (p := p) (M := M) (regs := s.1) q.2 []
  refine w217 hsh (r_cpRow (hsh.k rfl) (hsh.k rfl) (by omega) (by omega) (by omega) rfl rfl (fun I1 c1 c2 c3 => ⟨rfl, ?_⟩))
  have S1 : rSt I1 112 0 s := h.2.2.1.move ok.bd.1 (fun j hj => by rw [c2 j hj])
  have kp1 : rKp I I1 := ⟨fun b b1 b2 b3 b4 b5 b6 b7 b8 b9 => c1 b b6, fun f _ => by rw [c1 105 (by omega)], fun j _ => ⟨by rw [c1 107 (by omega)], by rw [c1 108 (by omega)]⟩, fun j _ => by rw [c1 109 (by omega)], fun j _ => by rw [c1 110 (by omega)]⟩
  have h1 := h.keep ok kp1
  refine r_does hsh (h1.2.1.R ok hp) (hsh.k rfl) (by omega) (by omega) S1 hR.2.2.1 (pl := 40) (by omega) hq.1 (by rw [c1 107 (by omega)]; exact h107) (hO.keepS (by rw [c1 108 (by omega)]) (fun j _ _ => by rw [c1 109 (by omega)])) hq.2.1 (fun hn I2 f2 => ⟨_, rfl, brN (fun e => hn ((iI_neg1 hb).mp e)) (k0 hn I2 (h1.keep ok f2.kp) (kp1.trans f2.kp).fr)⟩) (fun he I2 S2 f2 => ⟨_, rfl, brT rfl ?_⟩)
  have kp2 : rKp I1 I2 := ⟨fun b b1 b2 b3 b4 b5 b6 b7 b8 b9 => f2.1 b b7 b1 b6, fun f hf => f2.2 f (by omega), fun j _ => ⟨by rw [f2.1 107 (by omega) (by omega) (by omega)], by rw [f2.1 108 (by omega) (by omega) (by omega)]⟩, fun j _ => by rw [f2.1 109 (by omega) (by omega) (by omega)], fun j _ => by rw [f2.1 110 (by omega) (by omega) (by omega)]⟩
  have h2 := h1.keep ok kp2
  have okf := xRun_ok hR.1 hR.2.1 hR.2.2.1.1 q.2 [] hq.2.1.1 hq.2.1.2 (fun f hf => (by cases hf)) he
  refine r_kept hsh ok h2 (fun I3 h3 f3 f4 => ⟨rfl, ?_⟩)
  refine r_cpRow (hsh.k rfl) (hsh.k rfl) (by omega) (by omega) (by omega) rfl rfl (fun I4 d1 d2 d3 => ⟨rfl, ?_⟩)
  have S3 : rSt I3 112 0 (dn s q.1 (xRun p M s.1 q.2 []).2) := S2.keep (f3 112 (by omega) (by omega))
  refine k1 he I4 (h3.st d1 (S3.move (dn_ok hR.2.2.1 hq.1 okf).bd (fun j hj => by rw [d2 j hj]))) (fun b hb => by rw [d1 b (by omega), f3 b (by omega) (by omega), (kp1.trans kp2).fr b hb]) ?_
  rw [d1 107 (by omega), f3 107 (by omega) (by omega), f2.1 107 (by omega) (by omega) (by omega), c1 107 (by omega)]
theorem okW.dn (ok : okW p M s hs im sc) (hp : p ≠ 0) {r : Nat} (hr : r < 8) {f : Sr} (hf : okR p M f) : okW p M (dn s r f) (pushH hs s) im sc := ok.hist hp (dn_ok (ok.ring hp).2.2.1 hr hf)
theorem kTp.none {I : qI} (h : kTp t I) : kTp [] (qw I 5 1 (nI 0)) := h.cutT (n := 0) (Nat.zero_le _)
theorem rTp.none {I : qI} (h : rTp t I) : rTp [] (qw I 105 2 (nI 0)) := h.cutT (n := 0) (Nat.zero_le _)
theorem c_step (ok : okW p M s hs im sc) (hl : t.length ≤ 320) : bOK 104 219 [] (t, p, M, s, hs, im, sc, rf) := by
  by_cases hr : (tR t p M s).1 = -1
  · obtain ⟨hp, hq, hf, hx⟩ := tR_ok ok hl hr
    have h24 := hf.2.2.1
    refine ⟨nI (tSr t p M s).1, ([], p, M, dn s (tR t p M s).2.1 (tSr t p M s), pushH hs s, im, sc, rf), ok.dn hp hq.1 hf, fun d g I J Q h k => ?_, fun d g I J Q hsh h k => ?_⟩
    · have h : kI g I t p M s hs im sc rf := h
      refine w104 h.1.1 (k_reason ok h (fun I1 h1 f1 s1 => ⟨_, rfl, brT (by rw [hr]; exact iI_zm1.symm) ?_⟩))
      have h2 : kI g (qw I1 5 1 (nI 0)) [] p M s hs im sc rf := h1.tp (fun b b1 b2 => zu_a b1) h1.2.2.2.1.none
      refine k_settle (d := d + 87) ok hp h2 hf ((s1 hr).1.frame (zu_a (by omega)) (zu_a (by omega))) hq.1 (by rw [zu_a (by omega)]; exact (s1 hr).2) (fun g2 I2 J2 h3 F => ⟨_, rfl, h3.1.1, k g2 I2 J2 h3 ?_⟩)
      exact ⟨fun b hb => by rw [F.1 b (by omega), zu_a (by omega), f1.1 b hb], F.2.1, by have := F.2.2.1.1; omega, by have := F.2.2.1.2; omega⟩
    · have h2 := rI.keep h ok rKp.th
      refine w219 hsh (r_reason hsh ok h2 (fun I1 h1 f1 s1 => ⟨_, rfl, brT (by rw [hr]; exact iI_zm1.symm) ?_⟩))
      have s2 := s1 hr
      refine r_tryI (d := d + 81) hsh ok hp h1 hq s2.2.1 s2.2.2 (fun hn => absurd hx hn) (fun _ I2 h3 f2 e2 => ⟨_, rfl, ?_⟩)
      have h4 : rI (qw I2 105 2 (nI 0)) [] p M (dn s (tR t p M s).2.1 (tSr t p M s)) (pushH hs s) im sc rf := h3.tp (ok.dn hp hq.1 hf) (fun b b1 b2 => zu_a b1) (fun q q1 q2 => zu_k q2) h3.1.none
      have e7 : qw I2 105 2 (nI 0) 107 40 = nI (tR t p M s).2.1 := by rw [zu_a (by omega), e2]; exact s2.2.1
      have hq1 := hq.1
      refine ⟨25 * (tR t p M s).2.1, by rw [e7, pk_mul], by omega, ?_⟩
      have e9 := (h4.2.2.1.1 (tR t p M s).2.1 hq.1).1
      rw [Nat.zero_add] at e9
      rw [e9, show ((dn s (tR t p M s).2.1 (tSr t p M s)).1 (tR t p M s).2.1) = tSr t p M s from if_pos rfl]
      exact k _ J h4 (fun b hb => by rw [zu_a (by omega), f2 b hb, (rKp.trans rKp.th f1).fr b hb])
  · have hb := tR_bd (t := t) (p := p) (M := M) (s := s)
    have hne : ¬ iI (tR t p M s).1 = -1 := fun e => hr ((iI_neg1 hb).mp e)
    obtain ⟨n, hn⟩ : ∃ n : Nat, (tR t p M s).1 = n := ⟨(tR t p M s).1.toNat, by omega⟩
    refine ⟨-1, (t, p, M, s, hs, im, sc, bump rf n), ok, fun d g I J Q h k => ?_, fun d g I J Q hsh h k => ?_⟩
    · have h : kI g I t p M s hs im sc rf := h
      exact w104 h.1.1 (k_reason ok h (fun I1 h1 f1 _ => ⟨_, rfl, brN hne (k_ref (k := n) (by omega) h1 (by rw [hn, nI_iI]) (fun I2 h2 f2 => ⟨_, rfl, k g I2 J h2 (f1.then (fun b hb => f2 b (by omega)))⟩))⟩))
    · have h2 := rI.keep h ok rKp.th
      exact w219 hsh (r_reason hsh ok h2 (fun I1 h1 f1 _ => ⟨_, rfl, brN hne (r_ref hsh (k := n) (by omega) h1 (by rw [hn, nI_iI]) (fun I2 h3 f2 => ⟨_, rfl, k I2 J h3 (fun b hb => by rw [f2 b (by omega), (rKp.trans rKp.th f1).fr b hb])⟩))⟩))
end STEPS
