/-! calls: perform, run, target -/
section SCRIPTS
variable {d : Nat} {g g' : qG} {I I' : qI} {J J' : qJ} {Q : qQ} {t : List Nat} {p M : Nat} {s s' : ST} {hs hs' : List ST} {im im' : Option ST} {sc : SC} {rf : RF} {x1 x2 : Int32}
/-- STEPS on a state: the REASON, how many were done, the state -/
def rhF (p M : Nat) : List SP → ST → Nat → Int × Nat × ST
  | [], s, n => (-1, n, s)
  | q :: r, s, n => if (xRun p M s.1 q.2 []).1 = -1 then rhF p M r (dn s q.1 (xRun p M s.1 q.2 []).2) (n + 1) else ((xRun p M s.1 q.2 []).1, n, s)
theorem rhF_y {q : SP} {r : List SP} {n : Nat} (h : (xRun p M s.1 q.2 []).1 = -1) : rhF p M (q :: r) s n = rhF p M r (dn s q.1 (xRun p M s.1 q.2 []).2) (n + 1) := if_pos h
theorem rhF_n {q : SP} {r : List SP} {n : Nat} (h : (xRun p M s.1 q.2 []).1 ≠ -1) : rhF p M (q :: r) s n = ((xRun p M s.1 q.2 []).1, n, s) := if_neg h
theorem rhF_ok (hp : pr p) (hM : 2 ≤ M ∧ M ≤ 24) : ∀ (r : List SP) (s : ST) (n : Nat), (∀ q, q ∈ r → okSP q) → okST p M s → okST p M (rhF p M r s n).2.2 ∧ (-1 ≤ (rhF p M r s n).1 ∧ (rhF p M r s n).1 ≤ 5) ∧ (rhF p M r s n).2.1 ≤ n + r.length ∧ ((rhF p M r s n).1 = -1 → (rhF p M r s n).2.1 = n + r.length)
  | [], s, n, _, hs => ⟨hs, ⟨by show (-1 : Int) ≤ -1; omega, by show (-1 : Int) ≤ 5; omega⟩, Nat.le_refl _, fun _ => rfl⟩
  | q :: r, s, n, hr, hs => by
    have hq := hr q (List.mem_cons_self ..)
    by_cases h : (xRun p M s.1 q.2 []).1 = -1
    · rw [rhF_y h]
      have okf := xRun_ok hp hM hs.1 q.2 [] hq.2.1.1 hq.2.1.2 (fun f hf => (by cases hf)) h
      obtain ⟨h1, h2, h3, h4⟩ := rhF_ok hp hM r (dn s q.1 (xRun p M s.1 q.2 []).2) (n + 1) (fun q hq => hr q (List.mem_cons_of_mem _ hq)) (dn_ok hs hq.1 okf)
      exact ⟨h1, h2, by rw [List.length_cons]; omega, fun e => by rw [List.length_cons, h4 e]; omega⟩
    · rw [rhF_n h]
      exact ⟨hs, why_bd _ _, by show n ≤ _; omega, fun e => absurd e h⟩
/-- what a rehearsal changes -/
def kHF (I I' : qI) : Prop := (∀ b, (b < 4 ∨ (5 ≤ b ∧ b < 13) ∨ (83 ≤ b ∧ b < 93) ∨ 97 ≤ b) → I' b = I b) ∧ ∀ j, j ≠ 16 → I' 4 j = I 4 j
theorem kHF.trans {I1 I2 : qI} (h : kHF I I1) (h2 : kHF I1 I2) : kHF I I2 := ⟨fun b hb => by rw [h2.1 b hb, h.1 b hb], fun j hj => by rw [h2.2 j hj, h.2 j hj]⟩
theorem kHF.of (f : ∀ b, (b < 13 ∨ (83 ≤ b ∧ b < 93) ∨ 97 ≤ b) → I' b = I b) : kHF I I' := ⟨fun b hb => f b (by omega), fun j _ => by rw [f 4 (by omega)]⟩
theorem kI.hf (h : kI g I t p M s hs im sc rf) (f : kHF I I') : kI g I' t p M s hs im sc rf ∧ kFr g g I I' := ⟨h.keep ⟨fun b hb => f.1 b (by omega), f.2 13 (by omega), f.2 14 (by omega), f.2 15 (by omega), by rw [f.1 8 (by omega)]⟩, kFr.same (fun b hb => f.1 b (by omega))⟩
theorem k_reh_l (ok : okW p M s hs im sc) (hp : p ≠ 0) (h : kI g I t p M s hs im sc rf) {x n : Nat} (hx : 120 ≤ x) (hc : qCod g x n) (hn : n < 1000) {ss : List SP} (hC : kCode I x n ss) (hss : okSS ss) : ∀ (r : List SP) (j : Nat) (sj : ST) (I' : qI) (w3 : Value), ss.drop j = r → j + r.length = ss.length → okST p M sj → kSt I' 93 sj → kHF I I' → (∀ I2, kHF I I2 → ((rhF p M r sj j).1 = -1 → kSt I2 93 (rhF p M r sj j).2.2) → ((rhF p M r sj j).1 ≠ -1 → I2 4 16 = nI (rhF p M r sj j).2.1) → Q (some (.int (iI (rhF p M r sj j).1))) g I2 J) → qev (d + 6) 140 (13, [.ref 4, .ref x, .int (nI j), w3], [], g, I', J) Q
  | [], j, sj, I', w3, hd, hj, oj, S, f, k => by
    have h8 := hss.2.1
    have hj : j + 0 = ss.length := hj
    have k := k I' f (fun _ => S) (fun e => absurd rfl e)
    rw [show (rhF p M [] sj j).1 = -1 from rfl, ← iI_zm1] at k
    refine w140_13 h.1.1 hc (brT ?_ k)
    rw [f.1 x (by omega), hC.1, nI_leI (by omega) (by omega)]; omega
  | q :: r, j, sj, I', w3, hd, hj, oj, S, f, k => by
    have h8 := hss.2.1
    rw [List.length_cons] at hj
    have hq0 : ss[j]? = some q := by
      have := List.getElem?_drop (xs := ss) (i := j) (j := 0)
      rw [hd] at this
      exact this.symm
    have hq := hss.2.2 q (List.mem_of_getElem? hq0)
    have h1 := (h.hf f).1
    have C1 : kCode I' x n ss := hC.keep (f.1 _ (by omega)) (f.1 _ (by omega)) (f.1 _ (by omega)) (f.1 _ (by omega))
    have hb := why_bd (p := p) (M := M) (regs := sj.1) q.2 []
    refine w140_13 h.1.1 hc (brN (by rw [C1.1, nI_leI (by omega) (by omega)]; omega) (k_work h.1.1 hc (Or.inr hx) (h1.2.2.2.2.1.R ok hp) (h.1.1.sta (a := 93) rfl (by omega)) (by omega) S.1 oj.1 (C1.ops (by omega) hq0) hq.2.1 (fun I1 s1 f1 => ⟨_, rfl, ?_⟩)))
    have f1' : ∀ b, (b < 13 ∨ (24 ≤ b ∧ b < 33) ∨ b = 34 ∨ 83 ≤ b) → I1 b = I' b := f1
    have F1 : kHF I I1 := f.trans (kHF.of (fun b hb => f1' b (by omega)))
    by_cases he : (xRun p M sj.1 q.2 []).1 = -1
    · rw [rhF_y he] at k
      rw [he]
      have hR := ok.ring hp
      have okf := xRun_ok hR.1 hR.2.1 oj.1 q.2 [] hq.2.1.1 hq.2.1.2 (fun f hf => (by cases hf)) he
      have h24 := okf.2.2.1
      have okd := dn_ok oj hq.1 okf
      have s93 := h.1.1.sta (a := 93) rfl (by omega)
      have e2 : I1 (x + 2) j = nI q.1 := by rw [f1' (x + 2) (by omega)]; exact C1.2.2.2.2.2.1 j q hq0
      refine brT iI_zm1.symm ⟨j, rfl, by omega, w42 h.1.1 ⟨_, rfl, 35, rfl, h.1.1.ser rfl (by omega), ?_⟩⟩
      rw [e2]
      have S1 : kSt I1 93 sj := S.keep (fun b b1 b2 => f1' b (by omega))
      have eup : up sj.1 q.1 (xRun p M sj.1 q.2 []).2 q.1 = (xRun p M sj.1 q.2 []).2 := if_pos rfl
      refine k_store s93 (h.1.1.ser (a := 35) rfl (by omega)) (by omega) S1 (s1 he) h24 oj.bd.1 hq.1 (fun I2 S2 g2 => ⟨rfl, j, rfl, by omega, ?_⟩)
      rw [g2 (x + 2) (by omega) (by omega), e2]
      refine k_note s93 S2 oj.2 hq.1 (by omega) (by dsimp only; rw [eup]; exact h24) (fun I3 S3 g3 => ⟨rfl, ?_⟩)
      dsimp only at S3
      rw [eup] at S3
      rw [nI_add]
      refine k_reh_l ok hp h hx hc hn hC hss r (j + 1) _ I3 _ ?_ (by omega) okd S3 (F1.trans (kHF.of (fun b hb => by rw [g3 b (by omega) (by omega), g2 b (by omega) (by omega)]))) k
      rw [← List.drop_drop, hd]
      rfl
    · rw [rhF_n he] at k
      refine brN (fun e => he ((iI_neg1 hb).mp e)) (k _ ⟨fun b hb => by rw [zu_a (by omega)]; exact F1.1 b hb, fun i hi => by rw [zu_k hi]; exact F1.2 i hi⟩ (fun e => absurd e he) (fun _ => zu_s))
theorem k_reh (ok : okW p M s hs im sc) (hp : p ≠ 0) (h : kI g I t p M s hs im sc rf) {x n : Nat} (hx : 120 ≤ x) (hc : qCod g x n) (hn : n < 1000) {ss : List SP} (hC : kCode I x n ss) (hss : okSS ss) (k : ∀ I2, kHF I I2 → ((rhF p M ss s 0).1 = -1 → kSt I2 93 (rhF p M ss s 0).2.2) → ((rhF p M ss s 0).1 ≠ -1 → I2 4 16 = nI (rhF p M ss s 0).2.1) → Q (some (.int (iI (rhF p M ss s 0).1))) g I2 J) : qC (d + 6) 140 [.ref 4, .ref x] g I J Q := by
  refine w140 h.1.1 hc (k_copySt (h.1.1.sta (a := 93) rfl (by omega)) (h.1.1.sta (a := 89) rfl (by omega)) (by omega) h.2.2.2.2.2.1 ok.bd.1.1 ok.bd.1.2 (fun I1 S1 f1 => ⟨rfl, ?_⟩))
  exact k_reh_l (d := d) ok hp h hx hc hn hC hss ss 0 s I1 qpad rfl (Nat.zero_add _) (ok.ring hp).2.2.1 S1 (kHF.of (fun b hb => f1 b (by omega))) k
/-- as r_kept, k_kept with CODES -/
theorem k_kept2 (ok : okW p M s hs im sc) (h : kI g I t p M s hs im sc rf) (k : ∀ g' I' J', kI g' I' t p M s (pushH hs s) im sc rf → kF1 g g' I I' J J' → (∀ x n, 120 ≤ x → x + 3 < g.2.2.1 → qCod g x n → qCod g' x n ∧ ∀ b, x ≤ b → b ≤ x + 3 → I' b = I b) → Q none g' I' J') : qC (d + 1) 39 [.ref 101, .ref 89] g I J Q := by
  obtain ⟨hg, ⟨bb, bs, hrc⟩, h80, hT, hR, hS, ⟨nx, hH⟩, hM, hC, hf⟩ := h
  have h120 := hg.2.1
  refine k_keep hg hH (hg.1.sta rfl (by omega)) (by omega) hS ok.bd.1 ok.bd.2.1 (fun g1 I1 J1 nx1 B hg1 hH1 F => ?_)
  obtain ⟨b120, bSta, gr, refs, c1, c2, fr, frJ⟩ := F
  have f : ∀ b, b < 120 → b ≠ 101 → I1 b = I b := fun b h1 h2 => fr b (by omega) h2 (by omega)
  have cod : ∀ x n, 120 ≤ x → x + 3 < g.2.2.1 → qCod g x n → qCod g1 x n := fun x n h1 h2 h3 => gr.cod h3 h2 (fun k => refs x k (by omega) (by omega))
  have cfr : ∀ x n, 120 ≤ x → x + 3 < g.2.2.1 → qCod g x n → ∀ b, x ≤ b → b ≤ x + 3 → I1 b = I b := fun x n h1 h2 h3 b b1 b2 => by
    have := cod_apart bSta (cod x n h1 h2 h3)
    exact fr b (by omega) (by omega) (by omega)
  refine k g1 I1 J1 ⟨hg1, ⟨bb, bs, ?_⟩, by rw [f 8 (by omega) (by omega)]; exact h80, hT.keep (f 5 (by omega) (by omega)) (f 6 (by omega) (by omega)), hR.keep (by rw [f 4 (by omega) (by omega)]) (f 12 (by omega) (by omega)), hS.keep (fun b b1 b2 => f b (by omega) (by omega)), ⟨nx1, hH1⟩, hM.keep (by rw [f 4 (by omega) (by omega)]) (fun b b1 b2 => f b (by omega) (by omega)), hC.keepE (fun k => refs 103 k (by omega) (by omega)) gr.1 cod (by rw [f 4 (by omega) (by omega)]) cfr, fun i hi => by rw [f 104 (by omega) (by omega)]; exact hf i hi⟩ ⟨f, gr, ⟨c1, c2⟩, fun b hb => frJ b (by omega)⟩ (fun x n h1 h2 h3 => ⟨cod x n h1 h2 h3, cfr x n h1 h2 h3⟩)
  obtain ⟨a1, a2, a3, a4, a5, a6, a7⟩ := hrc
  exact ⟨by rw [refs 83 0 (by omega) (by omega)]; exact a1, by rw [refs 83 1 (by omega) (by omega)]; exact a2, by rw [refs 83 2 (by omega) (by omega)]; exact a3, by rw [gr.2 84 (by omega)]; exact a4, by rw [gr.2 bb (by omega)]; exact a5, by rw [gr.2 bs (by omega)]; exact a6, a7⟩
/-- a SCRIPT by its number -/
theorem k_scr (ok : okW p M s hs im sc) (h : kI g I t p M s hs im sc rf) (k1 : ∀ j ss x n, j < sc.length → sc[j]? = some ss → x1 = nI j → 120 ≤ x → x + 3 < g.2.2.1 → qCod g x n → n < 1000 → kCode I x n ss → Q (some (va_rf (some x))) g I J) (k0 : (∀ j, j < sc.length → x1 ≠ nI j) → Q (some (va_rf none)) g I J) : qC d 136 [.ref 4, .int x1] g I J Q := by
  have h4 := ok.2.1
  have hC := h.2.2.2.2.2.2.2.2.1
  refine w136 h.1.1 ?_
  rw [hC.1]
  refine brI (by omega) (fun j hj e => ⟨j, e, by omega, ?_⟩) (fun h0 => ⟨k0 h0, k0 h0⟩)
  have hs : sc[j]? = some sc[j] := List.getElem?_eq_getElem hj
  obtain ⟨x, n, a1, a2, a3, a4, a5, a6⟩ := hC.2 j _ hs
  rw [a1]
  exact k1 j _ x n hj hs e a2 a3 a4 a5 a6
theorem r_isScr (hsh : qSh g) (ok : okW p M s hs im sc) (h : rI I t p M s hs im sc rf) (k1 : ∀ j, j < sc.length → x1 = nI j → Q (some (.int (nI 1))) g I J) (k0 : (∀ j, j < sc.length → x1 ≠ nI j) → Q (some (.int (nI 0))) g I J) : qC (d + 1) 230 [.ref 105, .int x1] g I J Q := by
  have h4 := ok.2.1
  obtain ⟨z, hz, hz1, hz2⟩ := iI_of x1
  refine w230 hsh ?_
  rw [h.2.2.2.2.2.1.1, nI_iI, nI_iI, iI_sub, iI_l (by omega), hz, iI_l (by omega)]
  refine r_isIn (a := z) (b := 0) (c := (sc.length : Int) - 1) rfl (lN_iL 0) rfl (by omega) (by omega) (by omega) (fun h1 => ⟨_, rfl, Or.inr rfl, k1 z.toNat (by omega) ?_⟩) (fun h1 => ⟨_, rfl, Or.inl nI_0, k0 (fun j hj e => ?_)⟩)
  · rw [hz, nI_iI]; congr 1; omega
  · rw [hz, nI_iI, iI_eq (by omega) (by omega)] at e; omega
theorem r_goes_l (hsh : qSh g) (ok : okW p M s hs im sc) (hp : p ≠ 0) (h : rI I t p M s hs im sc rf) {c : Nat} {ss : List SP} (hc : sc[c]? = some ss) : ∀ (r : List SP) (j : Nat) (sj : ST) (I' : qI), ss.drop j = r → j + r.length = ss.length → okST p M sj → rSt I' 112 0 sj → rKp I I' → I' 105 27 = -1 → (∀ I2, rKp I I2 → I2 105 27 = iI (rhF p M r sj j).1 → ((rhF p M r sj j).1 = -1 → rSt I2 112 0 (rhF p M r sj j).2.2) → Q (some (.int (nI (rhF p M r sj j).2.1))) g I2 J) → qev (d + 8) 231 (20, [.ref 105, .int (nI c), .int (nI j)], [], g, I', J) Q
  | [], j, sj, I', hd, hj, oj, S, f, h27, k => by
    have hss := ok.2.2 ss (List.mem_of_getElem? hc)
    have hcl := getE_lt hc
    have h4 := ok.2.1
    have h8 := hss.2.1
    have hj : j + 0 = ss.length := hj
    have k := k I' f (by rw [h27]; exact iI_zm1) (fun _ => S)
    have h1 := h.keep ok f
    refine w231_20 hsh ⟨c, rfl, by omega, brT ?_ k⟩
    rw [(h1.2.2.2.2.2.1.2 c ss hc).1, nI_leI (by omega) (by omega)]; omega
  | q :: r, j, sj, I', hd, hj, oj, S, f, h27, k => by
    have hss := ok.2.2 ss (List.mem_of_getElem? hc)
    have hcl := getE_lt hc
    have h4 := ok.2.1
    have h8 := hss.2.1
    rw [List.length_cons] at hj
    have hq0 : ss[j]? = some q := by
      have := List.getElem?_drop (xs := ss) (i := j) (j := 0)
      rw [hd] at this
      exact this.symm
    have hq := hss.2.2 q (List.mem_of_getElem? hq0)
    have h1 := h.keep ok f
    have hS1 := h1.2.2.2.2.2.1.2 c ss hc
    have hO := hS1.2 j q hq0
    have hb := why_bd (p := p) (M := M) (regs := sj.1) q.2 []
    have hle : ¬ I' 110 c ≤ nI j := by rw [hS1.1, nI_leI (by omega) (by omega)]; omega
    have hR := ok.ring hp
    refine w231_20 hsh ⟨c, rfl, by omega, brN hle (brT h27 ?_)⟩
    rw [pk_mul, nI_add]
    refine r_does hsh (h1.2.1.R ok hp) (hsh.k rfl) (by omega) (by omega) S oj (pl := 8 * c + j) (by omega) hq.1 hO.1 hO.2 hq.2.1 (fun he I1 f1 => ⟨_, rfl, ?_⟩) (fun he I1 S1 f1 => ⟨_, rfl, ?_⟩)
    · have hne : ¬ (iI (xRun p M sj.1 q.2 []).1 = -1) := fun e => he ((iI_neg1 hb).mp e)
      rw [rhF_n he] at k
      have kp : rKp I' (qw I1 105 27 (iI (xRun p M sj.1 q.2 []).1)) := f1.kp.trans ⟨fun b b1 b2 b3 b4 b5 b6 b7 b8 b9 => zu_a b1, fun i hi => zu_k (by omega), fun i _ => ⟨by rw [zu_a (by omega)], by rw [zu_a (by omega)]⟩, fun i _ => by rw [zu_a (by omega)], fun i _ => by rw [zu_a (by omega)]⟩
      rw [zu_s]
      refine brN hne (w231_20 hsh ⟨c, rfl, by omega, brN ?_ (brN (by rw [zu_s]; exact hne) (k _ (f.trans kp) zu_s (fun e => absurd e he)))⟩)
      have hS2 := (h1.keep ok kp).2.2.2.2.2.1.2 c ss hc
      rw [hS2.1, nI_leI (by omega) (by omega)]; omega
    · rw [rhF_y he] at k
      have kp : rKp I' (qw I1 105 27 (-1)) := ⟨fun b b1 b2 b3 b4 b5 b6 b7 b8 b9 => by rw [zu_a b1, f1.1 b b7 b1 b6], fun i hi => by rw [zu_k (by omega), f1.2 i (by omega)], fun i _ => ⟨by rw [zu_a (by omega), f1.1 107 (by omega) (by omega) (by omega)], by rw [zu_a (by omega), f1.1 108 (by omega) (by omega) (by omega)]⟩, fun i _ => by rw [zu_a (by omega), f1.1 109 (by omega) (by omega) (by omega)], fun i _ => by rw [zu_a (by omega), f1.1 110 (by omega) (by omega) (by omega)]⟩
      have okf := xRun_ok hR.1 hR.2.1 oj.1 q.2 [] hq.2.1.1 hq.2.1.2 (fun f hf => (by cases hf)) he
      rw [zu_s]
      refine brT rfl ?_
      rw [nI_add]
      refine r_goes_l hsh ok hp h hc r (j + 1) _ _ ?_ (by omega) (dn_ok oj hq.1 okf) (S1.keep (zu_a (by omega))) (f.trans kp) zu_s k
      rw [← List.drop_drop, hd]
      rfl
theorem r_goes (hsh : qSh g) (ok : okW p M s hs im sc) (hp : p ≠ 0) (h : rI I t p M s hs im sc rf) {c : Nat} {ss : List SP} (hc : sc[c]? = some ss) (k : ∀ I2, rKp I I2 → I2 105 27 = iI (rhF p M ss s 0).1 → ((rhF p M ss s 0).1 = -1 → rSt I2 112 0 (rhF p M ss s 0).2.2) → Q (some (.int (nI (rhF p M ss s 0).2.1))) g I2 J) : qC (d + 8) 231 [.ref 105, .int (nI c)] g I J Q := by
  refine w231 hsh (r_cpRow (hsh.k rfl) (hsh.k rfl) (by omega) (by omega) (by omega) rfl rfl (fun I1 c1 c2 c3 => ⟨rfl, ?_⟩))
  have S1 : rSt I1 112 0 s := h.2.2.1.move ok.bd.1 (fun j hj => by rw [c2 j hj])
  have kp1 : rKp I (qw I1 105 27 (-1)) := ⟨fun b b1 b2 b3 b4 b5 b6 b7 b8 b9 => by rw [zu_a b1, c1 b b6], fun f _ => by rw [zu_k (by omega), c1 105 (by omega)], fun j _ => ⟨by rw [zu_a (by omega), c1 107 (by omega)], by rw [zu_a (by omega), c1 108 (by omega)]⟩, fun j _ => by rw [zu_a (by omega), c1 109 (by omega)], fun j _ => by rw [zu_a (by omega), c1 110 (by omega)]⟩
  exact r_goes_l (d := d) hsh ok hp h hc ss 0 s _ rfl (Nat.zero_add _) (ok.ring hp).2.2.1 (S1.keep (zu_a (by omega))) kp1 zu_s k
theorem c_perform (ok : okW p M s hs im sc) : bOK 113 232 [.int x1] (t, p, M, s, hs, im, sc, rf) := by
  by_cases hA : p ≠ 0 ∧ ∃ c ss, c < sc.length ∧ sc[c]? = some ss ∧ x1 = nI c
  · obtain ⟨hp, c, ss, hcl, hc, rfl⟩ := hA
    have h4 := ok.2.1
    have hss := ok.2.2 ss (List.mem_of_getElem? hc)
    have hR := ok.ring hp
    obtain ⟨o1, o2, o3, o4⟩ := rhF_ok hR.1 hR.2.1 ss s 0 hss.2.2 hR.2.2.1
    have K : ∀ (d : Nat) (g : qG) (I : qI) (J : qJ) (Q : qQ), kI g I t p M s hs im sc rf → (∀ x n, 120 ≤ x → x + 3 < g.2.2.1 → qCod g x n → kCode I x n ss → ∀ I2, kHF I I2 → ((rhF p M ss s 0).1 = -1 → kSt I2 93 (rhF p M ss s 0).2.2) → ((iI (rhF p M ss s 0).1 = (-1) → qC (d + 89) 39 [.ref 101, .ref 89] g I2 J (fun v g1 I3 J1 => v = none ∧ qSh g1 ∧ qCod g1 x n ∧ qC (d + 89) 80 [.ref 89, .ref 93] g1 I3 J1 (fun v _ I4 _ => v = none ∧ Q (some (.int (I4 x 3))) g1 I4 J1))) ∧ (¬ iI (rhF p M ss s 0).1 = (-1) → qC (d + 89) 137 [.ref 4, .int (iI (rhF p M ss s 0).1)] g I2 J (fun v _ I5 _ => ∃ r4, v = some (.int r4) ∧ Q (some (.int r4)) g I5 J)))) → qC (d + 90) 113 [.ref 4, .int (nI c)] g I J Q := by
      intro d g I J Q h k
      refine w113 h.1.1 (k_scr ok h (fun j ss' x n hj hs' e b1 b2 b3 b4 b5 => ⟨_, rfl, fun e2 => (by cases e2), fun b e2 => ?_⟩) (fun h0 => absurd rfl (h0 c hcl)))
      cases e2
      have ej : j = c := by rw [nI_eq (by omega) (by omega)] at e; exact e.symm
      subst ej
      rw [hc] at hs'
      cases hs'
      refine ⟨n, b3, h.2.2.2.2.1.tt (fun h0 => absurd h0 hp) (fun _ => k_reh ok hp h b1 b3 b4 b5 hss (fun I2 f2 s2 _ => ⟨_, rfl, k x n b1 b2 b3 b5 I2 f2 s2⟩))⟩
    have R : ∀ (d : Nat) (g : qG) (I : qI) (J : qJ) (Q : qQ), qSh g → rI I t p M s hs im sc rf → (∀ I2, rI I2 t p M s hs im sc rf → rFw I I2 → ((rhF p M ss s 0).1 = -1 → rSt I2 112 0 (rhF p M ss s 0).2.2) → ((iI (rhF p M ss s 0).1 = (-1) → qC (d + 89) 211 [.ref 105] g I2 J (fun v _ I3 _ => v = none ∧ qC (d + 89) 177 [.ref 112, .int (nI 0), .ref 111, .int (nI 0)] g I3 J (fun v _ I4 _ => v = none ∧ Q (some (.int (nI (rhF p M ss s 0).2.1))) g I4 J))) ∧ (¬ iI (rhF p M ss s 0).1 = (-1) → qC (d + 89) 213 [.ref 105, .int (iI (rhF p M ss s 0).1)] g I2 J (fun v _ I5 _ => ∃ r4, v = some (.int r4) ∧ Q (some (.int r4)) g I5 J)))) → qC (d + 90) 232 [.ref 105, .int (nI c)] g I J Q := by
      intro d g I J Q hsh h k
      have h2 := h.keep ok rKp.th
      refine w232 hsh (h2.2.1.tt ok.p_lt (fun h0 => absurd h0 hp) (fun _ => r_isScr hsh ok h2 (fun _ _ _ => ⟨_, rfl, br1 (r_goes hsh ok hp h2 hc (fun I2 f2 e2 s2 => ⟨_, rfl, ?_⟩))⟩) (fun h0 => absurd rfl (h0 c hcl))))
      rw [e2]
      exact k I2 (h2.keep ok f2) (rKp.trans rKp.th f2).fr s2
    by_cases he : (rhF p M ss s 0).1 = -1
    · refine ⟨nI ss.length, (t, p, M, (rhF p M ss s 0).2.2, pushH hs s, im, sc, rf), ok.hist hp o1, fun d g I J Q h k => ?_, fun d g I J Q hsh h k => ?_⟩
      · have h : kI g I t p M s hs im sc rf := h
        refine K d g I J Q h (fun x n b1 b2 b3 b5 I2 f2 s2 => brT (by rw [he]; exact iI_zm1.symm) (k_kept2 ok (h.hf f2).1 (fun g3 I3 J3 h3 F3 cd => ⟨rfl, h3.1.1, (cd x n b1 b2 b3).1, ?_⟩)))
        have S3 : kSt I3 93 (rhF p M ss s 0).2.2 := (s2 he).keep (fun b b1 b2 => F3.1 b (by omega) (by omega))
        refine k_copySt (h3.1.1.sta (a := 89) rfl (by omega)) (h3.1.1.sta (a := 93) rfl (by omega)) (by omega) S3 o1.bd.1 o1.bd.2 (fun I4 S4 f4 => ⟨rfl, ?_⟩)
        have e9 : I4 x 3 = nI ss.length := by rw [f4 x (by omega), (cd x n b1 b2 b3).2 x (by omega) (by omega), f2.1 x (by omega)]; exact b5.1
        rw [e9]
        have F := F3.fr
        exact k g3 I4 J3 (h3.st f4 S4) ⟨fun b hb => by rw [f4 b (by omega), F.1 b hb, f2.1 b (by omega)], F.2⟩
      · refine R d g I J Q hsh h (fun I2 h2 f2 s2 => brT (by rw [he]; exact iI_zm1.symm) (r_kept hsh ok h2 (fun I3 h3 f3 f3' => ⟨rfl, ?_⟩)))
        have S3 : rSt I3 112 0 (rhF p M ss s 0).2.2 := (s2 he).keep (f3 112 (by omega) (by omega))
        refine r_cpRow (hsh.k rfl) (hsh.k rfl) (by omega) (by omega) (by omega) rfl rfl (fun I4 d1 d2 d3 => ⟨rfl, ?_⟩)
        rw [o4 he, Nat.zero_add]
        exact k I4 J (h3.st d1 (S3.move o1.bd (fun j hj => by rw [d2 j hj]))) (fun b hb => by rw [d1 b (by omega), f3 b (by omega) (by omega), f2 b hb])
    · have hne : ¬ iI (rhF p M ss s 0).1 = -1 := fun e => he ((iI_neg1 o2).mp e)
      obtain ⟨n, hn⟩ : ∃ n : Nat, (rhF p M ss s 0).1 = n := ⟨(rhF p M ss s 0).1.toNat, by omega⟩
      refine ⟨-1, (t, p, M, s, hs, im, sc, bump rf n), ok, fun d g I J Q h k => ?_, fun d g I J Q hsh h k => ?_⟩
      · have h : kI g I t p M s hs im sc rf := h
        exact K d g I J Q h (fun x _ b1 b2 b3 b5 I2 f2 s2 => brN hne (k_ref (k := n) (by omega) (h.hf f2).1 (by rw [hn, nI_iI]) (fun I3 h3 f3 => ⟨_, rfl, k g I3 J h3 ((h.hf f2).2.then (fun b hb => f3 b (by omega)))⟩)))
      · exact R d g I J Q hsh h (fun I2 h2 f2 s2 => brN hne (r_ref hsh (k := n) (by omega) h2 (by rw [hn, nI_iI]) (fun I3 h3 f3 => ⟨_, rfl, k I3 J h3 (fun b hb => by rw [f3 b (by omega), f2 b hb])⟩)))
  · refine ⟨-1, (t, p, M, s, hs, im, sc, bump rf 0), ok, fun d g I J Q h k => ?_, fun d g I J Q hsh h k => ?_⟩
    · have h : kI g I t p M s hs im sc rf := h
      have kk : ∀ d, qC d 137 [.ref 4, .int (nI 0)] g I J (fun v _ I1 _ => ∃ r2, v = some (.int r2) ∧ Q (some (.int r2)) g I1 J) := fun d => k_ref (by omega) h rfl (fun I1 h1 f1 => ⟨_, rfl, k g I1 J h1 (kFr.same (fun b hb => f1 b (by omega)))⟩)
      refine w113 h.1.1 (k_scr ok h (fun j ss' x n hj hs' e b1 b2 b3 b4 b5 => ⟨_, rfl, fun e2 => (by cases e2), fun b e2 => ?_⟩) (fun h0 => ⟨_, rfl, fun _ => kk _, fun b e2 => (by cases e2)⟩))
      cases e2
      exact ⟨n, b3, h.2.2.2.2.1.tt (fun _ => kk _) (fun h0 => absurd ⟨h0, j, ss', hj, hs', e⟩ hA)⟩
    · have h2 := rI.keep h ok rKp.th
      have kk : ∀ d, qC d 213 [.ref 105, .int (nI 0)] g (qw I 105 0 (nI 0)) J (fun v _ I1 _ => ∃ r2, v = some (.int r2) ∧ Q (some (.int r2)) g I1 J) := fun d => r_ref hsh (by omega) h2 rfl (fun I1 h1 f1 => ⟨_, rfl, k I1 J h1 (fun b hb => by rw [f1 b (by omega), zu_a (by omega)])⟩)
      exact w232 hsh (h2.2.1.tt ok.p_lt (fun _ => kk _) (fun hp => r_isScr hsh ok h2 (fun j hj e => absurd ⟨hp, j, _, hj, List.getElem?_eq_getElem hj, e⟩ hA) (fun _ => ⟨_, rfl, br0 (kk _)⟩)))
theorem c_target (ok : okW p M s hs im sc) : bOK 127 234 [.int x1, .int x2] (t, p, M, s, hs, im, sc, rf) := by
  have h4 := ok.2.1
  rcases cls x1 sc.length (by omega) with ⟨c, hcl, rfl⟩ | hx
  · have hc : sc[c]? = some sc[c] := List.getElem?_eq_getElem hcl
    generalize sc[c] = ss at hc
    have hss := ok.2.2 ss (List.mem_of_getElem? hc)
    have h8 := hss.2.1
    have h1 := hss.1
    have K : ∀ (d : Nat) (g : qG) (I : qI) (J : qJ) (Q : qQ), kI g I t p M s hs im sc rf → ((x2 = (-1) → Q (some (.int (nI ss.length))) g I J) ∧ (¬ x2 = (-1) → ((x2 < 0 → Q (some (.int (-1))) g I J) ∧ (¬ x2 < 0 → ((x2 < nI ss.length → ∃ k1, x2 = nI k1 ∧ k1 < 8 ∧ ∀ q, ss[k1]? = some q → Q (some (.int (nI q.1))) g I J) ∧ (¬ x2 < nI ss.length → Q (some (.int (-1))) g I J)))))) → qC (d + 90) 127 [.ref 4, .int (nI c), .int x2] g I J Q := by
      intro d g I J Q h k
      refine w127 h.1.1 (k_scr ok h (fun j ss' x n hj hs' e b1 b2 b3 b4 b5 => ⟨_, rfl, fun e2 => (by cases e2), fun b e2 => ?_⟩) (fun h0 => absurd rfl (h0 c hcl)))
      cases e2
      have ej : j = c := by rw [nI_eq (by omega) (by omega)] at e; exact e.symm
      subst ej
      rw [hc] at hs'
      cases hs'
      refine ⟨n, b3, ?_⟩
      rw [b5.1]
      refine ⟨k.1, fun e => ⟨(k.2 e).1, fun e2 => ⟨fun e3 => ?_, ((k.2 e).2 e2).2⟩⟩⟩
      obtain ⟨k1, a1, a2, a3⟩ := ((k.2 e).2 e2).1 e3
      have hk1 : k1 < ss.length := by rw [a1, nI_ltI (by omega) (by omega)] at e3; exact e3
      refine ⟨k1, a1, a2, ?_⟩
      rw [b5.2.2.2.2.2.1 k1 ss[k1] (List.getElem?_eq_getElem hk1)]
      exact a3 _ (List.getElem?_eq_getElem hk1)
    have R : ∀ (d : Nat) (g : qG) (I : qI) (J : qJ) (Q : qQ), qSh g → rI I t p M s hs im sc rf → (∀ I', rI I' t p M s hs im sc rf → rFw I I' → ((x2 = (-1) → Q (some (.int (nI ss.length))) g I' J) ∧ (¬ x2 = (-1) → qC (d + 89) 147 [.long (Int32.toInt64 x2), .long (lN 0), .long (lN (ss.length - 1))] g I' J (fun v _ _ _ => ∃ r2, v = some (.int r2) ∧ ((r2 = 0 → Q (some (.int (-1))) g I' J) ∧ (¬ r2 = 0 → ∃ k2, nI (8 * c) + x2 = nI k2 ∧ k2 < 41 ∧ Q (some (.int (I' 107 k2))) g I' J)))))) → qC (d + 90) 234 [.ref 105, .int (nI c), .int x2] g I J Q := by
      intro d g I J Q hsh h k
      have h2 := h.keep ok rKp.th
      have k := k _ h2 rKp.th.fr
      refine w234 hsh (r_isScr hsh ok h2 (fun _ _ _ => ⟨_, rfl, br1 ⟨fun e => ⟨c, rfl, by omega, ?_⟩, fun e => ⟨c, rfl, by omega, ?_⟩⟩⟩) (fun h0 => absurd rfl (h0 c hcl)))
      · rw [(h2.2.2.2.2.2.1.2 c ss hc).1]; exact k.1 e
      · rw [(h2.2.2.2.2.2.1.2 c ss hc).1, pk_sub (by omega), nI_lN (by omega), pk_mul]; exact k.2 e
    by_cases e1 : x2 = -1
    · refine ⟨nI ss.length, (t, p, M, s, hs, im, sc, rf), ok, fun d g I J Q h k => ?_, fun d g I J Q hsh h k => ?_⟩
      · exact K d g I J Q h (brT e1 (k g I J h (kFr.refl g I)))
      · exact R d g I J Q hsh h (fun I1 h1 f1 => brT e1 (k I1 J h1 f1))
    · rcases cls x2 ss.length (by omega) with ⟨i, hi, rfl⟩ | hx
      · have hq : ss[i]? = some ss[i] := List.getElem?_eq_getElem hi
        generalize ss[i] = q at hq
        refine ⟨nI q.1, (t, p, M, s, hs, im, sc, rf), ok, fun d g I J Q h k => ?_, fun d g I J Q hsh h k => ?_⟩
        · refine K d g I J Q h (brN e1 (brN (nI_pos (by omega)) (brT (by rw [nI_ltI (by omega) (by omega)]; exact hi) ⟨i, rfl, by omega, fun q' hq' => ?_⟩)))
          rw [hq] at hq'
          cases hq'
          exact k g I J h (kFr.refl g I)
        · refine R d g I J Q hsh h (fun I1 h1 f1 => brN e1 (r_in rfl (by omega) (fun _ _ _ => ⟨_, rfl, br1 ⟨8 * c + i, nI_add _ _, by omega, ?_⟩⟩) (fun h0 => absurd rfl (h0 i (by omega)))))
          rw [((h1.2.2.2.2.2.1.2 c ss hc).2 i q hq).1]
          exact k I1 J h1 f1
      · refine ⟨-1, (t, p, M, s, hs, im, sc, rf), ok, fun d g I J Q h k => ?_, fun d g I J Q hsh h k => ?_⟩
        · have k := k g I J h (kFr.refl g I)
          exact K d g I J Q h (brN e1 (brI (by omega) (fun i hi e => absurd e (hx i hi)) (fun _ => ⟨k, k⟩)))
        · exact R d g I J Q hsh h (fun I1 h1 f1 => brN e1 (r_in rfl (by omega) (fun i hi e => absurd e (hx i (by omega))) (fun _ => ⟨_, rfl, br0 (k I1 J h1 f1)⟩)))
  · refine ⟨-1, (t, p, M, s, hs, im, sc, rf), ok, fun d g I J Q h k => ?_, fun d g I J Q hsh h k => ?_⟩
    · have h : kI g I t p M s hs im sc rf := h
      exact w127 h.1.1 (k_scr ok h (fun j ss' x n hj hs' e b1 b2 b3 b4 b5 => absurd e (hx j hj)) (fun h0 => ⟨_, rfl, fun _ => k g I J h (kFr.refl g I), fun b e2 => (by cases e2)⟩))
    · have h2 := rI.keep h ok rKp.th
      exact w234 hsh (r_isScr hsh ok h2 (fun j hj e => absurd e (hx j hj)) (fun _ => ⟨_, rfl, br0 (k _ J h2 rKp.th.fr)⟩))
theorem c_run (ok : okW p M s hs im sc) : bOK 126 233 [.int x1, .int x2] (t, p, M, s, hs, im, sc, rf) := by
  by_cases hA : p ≠ 0 ∧ (∃ c ss, c < sc.length ∧ sc[c]? = some ss ∧ x1 = nI c) ∧ ∃ u, u < 3 ∧ x2 = nI u
  · obtain ⟨hp, ⟨c, ss, hcl, hc, rfl⟩, u, hu, rfl⟩ := hA
    have h4 := ok.2.1
    have hss := ok.2.2 ss (List.mem_of_getElem? hc)
    have h8 := hss.2.1
    have h1 := hss.1
    have hR := ok.ring hp
    obtain ⟨o1, o2, o3, o4⟩ := rhF_ok hR.1 hR.2.1 ss s 0 hss.2.2 hR.2.2.1
    have hq : ss[ss.length - 1]? = some ss[ss.length - 1] := List.getElem?_eq_getElem (by omega)
    generalize ss[ss.length - 1] = q at hq
    have hqo := hss.2.2 q (List.mem_of_getElem? hq)
    have hq8 := hqo.1
    have K : ∀ (d : Nat) (g : qG) (I : qI) (J : qJ) (Q : qQ), kI g I t p M s hs im sc rf → (∀ I2, kI g I2 t p M s hs im sc rf → kFr g g I I2 → ((rhF p M ss s 0).1 = -1 → kSt I2 93 (rhF p M ss s 0).2.2) → ((nI u = 0 → ((iI (rhF p M ss s 0).1 = (-1) → Q (some (.int (-1))) g I2 J) ∧ (¬ iI (rhF p M ss s 0).1 = (-1) → Q (some (.int (nI (rhF p M ss s 0).2.1))) g I2 J))) ∧ (¬ nI u = 0 → ((nI u = (nI 1) → Q (some (.int (iI (rhF p M ss s 0).1))) g I2 J) ∧ (¬ nI u = (nI 1) → ((iI (rhF p M ss s 0).1 = (-1) → Q (some (.int (I2 94 q.1))) g I2 J) ∧ (¬ iI (rhF p M ss s 0).1 = (-1) → Q (some (.int (-1))) g I2 J))))))) → qC (d + 90) 126 [.ref 4, .int (nI c), .int (nI u)] g I J Q := by
      intro d g I J Q h k
      refine w126 h.1.1 (k_scr ok h (fun j ss' x n hj hs' e b1 b2 b3 b4 b5 => ⟨_, rfl, fun e2 => (by cases e2), fun b e2 => ?_⟩) (fun h0 => absurd rfl (h0 c hcl)))
      cases e2
      have ej : j = c := by rw [nI_eq (by omega) (by omega)] at e; exact e.symm
      subst ej
      rw [hc] at hs'
      cases hs'
      refine ⟨n, b3, h.2.2.2.2.1.tt (fun h0 => absurd h0 hp) (fun _ => brN (nI_pos (by omega)) (brT (by rw [nI_leI (by omega) (by omega)]; omega) (k_reh ok hp h b1 b3 b4 b5 hss (fun I2 f2 s2 s3 => ⟨_, rfl, ?_⟩))))⟩
      have k := k I2 (h.hf f2).1 (h.hf f2).2 s2
      refine ⟨fun e => ⟨(k.1 e).1, fun e3 => ?_⟩, fun e => ⟨(k.2 e).1, fun e3 => ⟨fun e5 => ⟨ss.length - 1, ?_, by omega, q.1, ?_, hq8, ((k.2 e).2 e3).1 e5⟩, ((k.2 e).2 e3).2⟩⟩⟩
      · rw [s3 (fun e4 => e3 (by rw [e4]; exact iI_zm1.symm))]; exact (k.1 e).2 e3
      · rw [f2.1 x (by omega), b5.1, pk_sub (by omega)]
      · rw [f2.1 (x + 2) (by omega)]; exact b5.2.2.2.2.2.1 _ q hq
    have R : ∀ (d : Nat) (g : qG) (I : qI) (J : qJ) (Q : qQ), qSh g → rI I t p M s hs im sc rf → (∀ I2, rI I2 t p M s hs im sc rf → rFw I I2 → ((rhF p M ss s 0).1 = -1 → rSt I2 112 0 (rhF p M ss s 0).2.2) → ((nI u = 0 → ((iI (rhF p M ss s 0).1 = (-1) → Q (some (.int (-1))) g I2 J) ∧ (¬ iI (rhF p M ss s 0).1 = (-1) → Q (some (.int (nI (rhF p M ss s 0).2.1))) g I2 J))) ∧ (¬ nI u = 0 → ((nI u = (nI 1) → Q (some (.int (iI (rhF p M ss s 0).1))) g I2 J) ∧ (¬ nI u = (nI 1) → ((iI (rhF p M ss s 0).1 = (-1) → Q (some (.int (I2 112 (25 * q.1)))) g I2 J) ∧ (¬ iI (rhF p M ss s 0).1 = (-1) → Q (some (.int (-1))) g I2 J))))))) → qC (d + 90) 233 [.ref 105, .int (nI c), .int (nI u)] g I J Q := by
      intro d g I J Q hsh h k
      have h2 := h.keep ok rKp.th
      refine w233 hsh (h2.2.1.tt ok.p_lt (fun h0 => absurd h0 hp) (fun _ => r_isScr hsh ok h2 (fun _ _ _ => ⟨_, rfl, br1 (r_in rfl (by omega) (fun _ _ _ => ⟨_, rfl, br1 (r_goes hsh ok hp h2 hc (fun I2 f2 e2 s2 => ⟨_, rfl, ?_⟩))⟩) (fun h0 => absurd rfl (h0 u hu)))⟩) (fun h0 => absurd rfl (h0 c hcl))))
      rw [e2]
      have h3 := h2.keep ok f2
      have k := k I2 h3 (rKp.trans rKp.th f2).fr s2
      refine ⟨k.1, fun e => ⟨(k.2 e).1, fun e3 => ⟨fun e5 => ?_, ((k.2 e).2 e3).2⟩⟩⟩
      refine ⟨8 * c + (ss.length - 1), ?_, by omega, 25 * q.1, ?_, by omega, ((k.2 e).2 e3).1 e5⟩
      · rw [o4 ((iI_neg1 o2).mp e5), Nat.zero_add, pk_mul, nI_add, pk_sub (by omega)]; congr 1; omega
      · rw [((h3.2.2.2.2.2.1.2 c ss hc).2 _ q hq).1, pk_mul]
    have eL : (rhF p M ss s 0).1 = -1 → ∀ (I2 : qI), kSt I2 93 (rhF p M ss s 0).2.2 → I2 94 q.1 = nI ((rhF p M ss s 0).2.2.1 q.1).1 := fun _ I2 S => (S.1 q.1 hq8).1
    have eR : (rhF p M ss s 0).1 = -1 → ∀ (I2 : qI), rSt I2 112 0 (rhF p M ss s 0).2.2 → I2 112 (25 * q.1) = nI ((rhF p M ss s 0).2.2.1 q.1).1 := fun _ I2 S => by have := (S.1 q.1 hq8).1; rw [Nat.zero_add] at this; exact this
    rcases (show u = 0 ∨ u = 1 ∨ u = 2 by omega) with rfl | rfl | rfl
    · by_cases he : iI (rhF p M ss s 0).1 = -1
      · exact ⟨-1, (t, p, M, s, hs, im, sc, rf), ok, fun d g I J Q h k => K d g I J Q h (fun I2 h2 f2 _ => br0 (brT he (k g I2 J h2 f2))), fun d g I J Q hsh h k => R d g I J Q hsh h (fun I2 h2 f2 _ => br0 (brT he (k I2 J h2 f2)))⟩
      · exact ⟨nI (rhF p M ss s 0).2.1, (t, p, M, s, hs, im, sc, rf), ok, fun d g I J Q h k => K d g I J Q h (fun I2 h2 f2 _ => br0 (brN he (k g I2 J h2 f2))), fun d g I J Q hsh h k => R d g I J Q hsh h (fun I2 h2 f2 _ => br0 (brN he (k I2 J h2 f2)))⟩
    · exact ⟨iI (rhF p M ss s 0).1, (t, p, M, s, hs, im, sc, rf), ok, fun d g I J Q h k => K d g I J Q h (fun I2 h2 f2 _ => br1 (brT rfl (k g I2 J h2 f2))), fun d g I J Q hsh h k => R d g I J Q hsh h (fun I2 h2 f2 _ => br1 (brT rfl (k I2 J h2 f2)))⟩
    · have n20 : ¬ nI 2 = 0 := by decide +kernel
      have n21 : ¬ nI 2 = nI 1 := by decide +kernel
      by_cases he : iI (rhF p M ss s 0).1 = -1
      · have he2 := (iI_neg1 o2).mp he
        refine ⟨nI ((rhF p M ss s 0).2.2.1 q.1).1, (t, p, M, s, hs, im, sc, rf), ok, fun d g I J Q h k => K d g I J Q h (fun I2 h2 f2 s2 => brN n20 (brN n21 (brT he ?_))), fun d g I J Q hsh h k => R d g I J Q hsh h (fun I2 h2 f2 s2 => brN n20 (brN n21 (brT he ?_)))⟩
        · rw [eL he2 I2 (s2 he2)]; exact k g I2 J h2 f2
        · rw [eR he2 I2 (s2 he2)]; exact k I2 J h2 f2
      · exact ⟨-1, (t, p, M, s, hs, im, sc, rf), ok, fun d g I J Q h k => K d g I J Q h (fun I2 h2 f2 _ => brN n20 (brN n21 (brN he (k g I2 J h2 f2)))), fun d g I J Q hsh h k => R d g I J Q hsh h (fun I2 h2 f2 _ => brN n20 (brN n21 (brN he (k I2 J h2 f2))))⟩
  · refine ⟨-1000000, (t, p, M, s, hs, im, sc, rf), ok, fun d g I J Q h k => ?_, fun d g I J Q hsh h k => ?_⟩
    · have h : kI g I t p M s hs im sc rf := h
      have k := k g I J h (kFr.refl g I)
      refine w126 h.1.1 (k_scr ok h (fun j ss' x n hj hs' e b1 b2 b3 b4 b5 => ⟨_, rfl, fun e2 => (by cases e2), fun b e2 => ?_⟩) (fun h0 => ⟨_, rfl, fun _ => k, fun b e2 => (by cases e2)⟩))
      cases e2
      exact ⟨n, b3, h.2.2.2.2.1.tt (fun _ => k) (fun hp => brIle (by omega) (fun u hu e2 => absurd ⟨hp, ⟨j, ss', hj, hs', e⟩, u, hu, e2⟩ hA) (fun _ => ⟨k, k⟩))⟩
    · have h2 := rI.keep h ok rKp.th
      have k := k _ J h2 rKp.th.fr
      exact w233 hsh (h2.2.1.tt ok.p_lt (fun _ => k) (fun hp => r_isScr hsh ok h2 (fun j hj e => ⟨_, rfl, br1 (r_in rfl (by omega) (fun u hu e2 => absurd ⟨hp, ⟨j, _, hj, List.getElem?_eq_getElem hj, e⟩, u, hu, e2⟩ hA) (fun _ => ⟨_, rfl, br0 k⟩))⟩) (fun _ => ⟨_, rfl, br0 k⟩)))
end SCRIPTS
