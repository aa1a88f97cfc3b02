/-! what changes a part of the state alone -/
def bump (rf : RF) (k : Nat) : RF := fun i => if i = k then rf k + nI 1 else rf i
section UPD
variable {d : Nat} {g g' : qG} {I I' : qI} {J J' : qJ} {Q : qQ} {t t' : List Nat} {p M : Nat} {s s' : ST} {hs hs' : List ST} {im im' : Option ST} {sc : SC} {rf : RF}
theorem kI.tp (h : kI g I t p M s hs im sc rf) (f : ∀ b, b ≠ 5 → b ≠ 6 → I' b = I b) (T : kTp t' I') : kI g I' t' p M s hs im sc rf := by
  obtain ⟨hg, hrc, h80, hT, hR, hS, ⟨nx, hH⟩, hM, hC, hf⟩ := h
  exact ⟨hg, hrc, by rw [f 8 (by omega) (by omega)]; exact h80, T, hR.keep (by rw [f 4 (by omega) (by omega)]) (f 12 (by omega) (by omega)), hS.keep (fun b b1 b2 => f b (by omega) (by omega)), ⟨nx, hH.keepE hg (fun _ => rfl) (f 101 (by omega) (by omega)) (fun b hb => f b (by omega) (by omega))⟩, hM.keep (by rw [f 4 (by omega) (by omega)]) (fun b b1 b2 => f b (by omega) (by omega)), hC.keepE (fun _ => rfl) (Nat.le_refl _) (fun x n _ _ h3 => h3) (by rw [f 4 (by omega) (by omega)]) (fun x n h1 h2 h3 b b1 b2 => f b (by omega) (by omega)), fun i hi => by rw [f 104 (by omega) (by omega)]; exact hf i hi⟩
theorem kI.st (h : kI g I t p M s hs im sc rf) (f : ∀ b, (b < 89 ∨ 92 < b) → I' b = I b) (S : kSt I' 89 s') : kI g I' t p M s' hs im sc rf := by
  obtain ⟨hg, hrc, h80, hT, hR, hS, ⟨nx, hH⟩, hM, hC, hf⟩ := h
  exact ⟨hg, hrc, by rw [f 8 (by omega)]; exact h80, hT.keep (f 5 (by omega)) (f 6 (by omega)), hR.keep (by rw [f 4 (by omega)]) (f 12 (by omega)), S, ⟨nx, hH.keepE hg (fun _ => rfl) (f 101 (by omega)) (fun b hb => f b (by omega))⟩, hM.keep (by rw [f 4 (by omega)]) (fun b b1 b2 => f b (by omega)), hC.keepE (fun _ => rfl) (Nat.le_refl _) (fun x n _ _ h3 => h3) (by rw [f 4 (by omega)]) (fun x n h1 h2 h3 b b1 b2 => f b (by omega)), fun i hi => by rw [f 104 (by omega)]; exact hf i hi⟩
theorem k_ref {k : Nat} (hk : k < 6) (h : kI g I t p M s hs im sc rf) {x : Int32} (hx : x = nI k) (kk : ∀ I', kI g I' t p M s hs im sc (bump rf k) → (∀ b, b ≠ 104 → I' b = I b) → Q (some (.int (-1))) g I' J) : qC d 137 [.ref 4, .int x] g I J Q := by
  obtain ⟨hg, hrc, h80, hT, hR, hS, ⟨nx, hH⟩, hM, hC, hf⟩ := h
  subst hx
  refine w137 hg.1 (brN (nI_pos (by omega)) (brN (by rw [nI_leI (by omega) (by omega)]; omega) ⟨k, rfl, hk, k, rfl, hk, kk _ ?_ (fun b hb => zu_a hb)⟩))
  have f : ∀ b, b ≠ 104 → qw I 104 k (I 104 k + nI 1) b = I b := fun b hb => zu_a hb
  refine ⟨hg, hrc, by rw [f 8 (by omega)]; exact h80, hT.keep (f 5 (by omega)) (f 6 (by omega)), hR.keep (by rw [f 4 (by omega)]) (f 12 (by omega)), hS.keep (fun b b1 b2 => f b (by omega)), ⟨nx, hH.keepE hg (fun _ => rfl) (f 101 (by omega)) (fun b hb => f b (by omega))⟩, hM.keep (by rw [f 4 (by omega)]) (fun b b1 b2 => f b (by omega)), hC.keepE (fun _ => rfl) (Nat.le_refl _) (fun x n _ _ h3 => h3) (by rw [f 4 (by omega)]) (fun x n h1 h2 h3 b b1 b2 => f b (by omega)), fun i hi => ?_⟩
  unfold bump
  by_cases e : i = k
  · rw [if_pos e, e, zu_s, hf k hk]
  · rw [if_neg e, zu_k e]; exact hf i hi
/-- behind a keeping -/
def kF1 (g g' : qG) (I I' : qI) (J J' : qJ) : Prop := (∀ b, b < 120 → b ≠ 101 → I' b = I b) ∧ gGrow g g' ∧ (g'.2.2.1 ≤ g.2.2.1 + 4 ∧ g'.2.2.2 ≤ g.2.2.2 + 264) ∧ ∀ b, b < 120 → J' b = J b
theorem cod_apart {a b n : Nat} (ha : qSta g a) (hb : qCod g b n) : a + 3 < b ∨ b + 3 < a := by
  have kb : g.1 b = some (1, 5) := hb.1
  have ka : g.1 a = some (7, 4) := ha.1
  by_cases h1 : a + 3 < b
  · exact Or.inl h1
  · by_cases h2 : b + 3 < a
    · exact Or.inr h2
    · exfalso
      rcases (show b = a ∨ b = a + 1 ∨ b = a + 2 ∨ b = a + 3 ∨ a = b + 1 ∨ a = b + 2 ∨ a = b + 3 by omega) with e | e | e | e | e | e | e
      · rw [e, ka] at kb; cases kb
      · rw [e, ha.k0] at kb; cases kb
      · rw [e, ha.k1] at kb; cases kb
      · rw [e, ha.k2] at kb; cases kb
      · rw [e, hb.k1] at ka; cases ka
      · rw [e, hb.k2] at ka; cases ka
      · rw [e, hb.k0] at ka; cases ka
theorem k_kept (ok : okW p M s hs im sc) (h : kI g I t p M s hs im sc rf) (k : ∀ g' I' J', kI g' I' t p M s (pushH hs s) im sc rf → kF1 g g' I I' J J' → Q none g' I' J') : qC (d + 1) 39 [.ref 101, .ref 89] g I J Q := by
  obtain ⟨hg, ⟨bb, bs, hrc⟩, h80, hT, hR, hS, ⟨nx, hH⟩, hM, hC, hf⟩ := h
  have h120 := hg.2.1
  refine k_keep hg hH (hg.1.sta rfl (by omega)) (by omega) hS ok.bd.1 ok.bd.2.1 (fun g1 I1 J1 nx1 B hg1 hH1 F => ?_)
  obtain ⟨b120, bSta, gr, refs, c1, c2, fr, frJ⟩ := F
  have f : ∀ b, b < 120 → b ≠ 101 → I1 b = I b := fun b h1 h2 => fr b (by omega) h2 (by omega)
  have cod : ∀ x n, 120 ≤ x → x + 3 < g.2.2.1 → qCod g x n → qCod g1 x n := fun x n h1 h2 h3 => gr.cod h3 h2 (fun k => refs x k (by omega) (by omega))
  refine k g1 I1 J1 ⟨hg1, ⟨bb, bs, ?_⟩, by rw [f 8 (by omega) (by omega)]; exact h80, hT.keep (f 5 (by omega) (by omega)) (f 6 (by omega) (by omega)), hR.keep (by rw [f 4 (by omega) (by omega)]) (f 12 (by omega) (by omega)), hS.keep (fun b b1 b2 => f b (by omega) (by omega)), ⟨nx1, hH1⟩, hM.keep (by rw [f 4 (by omega) (by omega)]) (fun b b1 b2 => f b (by omega) (by omega)), hC.keepE (fun k => refs 103 k (by omega) (by omega)) gr.1 cod (by rw [f 4 (by omega) (by omega)]) (fun x n h1 h2 h3 b b1 b2 => ?_), fun i hi => by rw [f 104 (by omega) (by omega)]; exact hf i hi⟩ ⟨f, gr, ⟨c1, c2⟩, fun b hb => frJ b (by omega)⟩
  · obtain ⟨a1, a2, a3, a4, a5, a6, a7⟩ := hrc
    exact ⟨by rw [refs 83 0 (by omega) (by omega)]; exact a1, by rw [refs 83 1 (by omega) (by omega)]; exact a2, by rw [refs 83 2 (by omega) (by omega)]; exact a3, by rw [gr.2 84 (by omega)]; exact a4, by rw [gr.2 bb (by omega)]; exact a5, by rw [gr.2 bs (by omega)]; exact a6, a7⟩
  · have := cod_apart bSta (cod x n h1 h2 h3)
    exact fr b (by omega) (by omega) (by omega)
theorem kF1.fr (f : kF1 g g' I I' J J') : kFr g g' I I' := ⟨fun b hb => f.1 b (by omega) (by omega), f.2.1, by have := f.2.2.1.1; omega, by have := f.2.2.1.2; omega⟩
theorem kFr.then {I2 : qI} (f : kFr g g' I I') (f2 : ∀ b, (b < 4 ∨ (105 ≤ b ∧ b < 120)) → I2 b = I' b) : kFr g g' I I2 := ⟨fun b hb => by rw [f2 b hb, f.1 b hb], f.2⟩
theorem rI.tp (h : rI I t p M s hs im sc rf) (ok : okW p M s hs im sc) (f : ∀ b, b ≠ 105 → b ≠ 106 → I' b = I b) (f2 : ∀ k, k ≠ 0 → k ≠ 2 → I' 105 k = I 105 k) (T : rTp t' I') : rI I' t' p M s hs im sc rf := by
  obtain ⟨hT, hR, hS, ⟨fs, hH⟩, hM, hC, hf⟩ := h
  exact ⟨T, ⟨by rw [f2 7 (by omega) (by omega)]; exact hR.1, fun hp => by rw [f2 8 (by omega) (by omega)]; exact hR.2 hp⟩, hS.keep (f 111 (by omega) (by omega)), ⟨fs, hH.keep (f2 21 (by omega) (by omega)) (f2 22 (by omega) (by omega)) (f 114 (by omega) (by omega))⟩, hM.keep (f2 23 (by omega) (by omega)) (f 113 (by omega) (by omega)), ⟨by rw [f2 13 (by omega) (by omega)]; exact hC.1, fun j ss hj => ⟨by rw [f 110 (by omega) (by omega)]; exact (hC.2 j ss hj).1, fun i q hi => ⟨by rw [f 107 (by omega) (by omega)]; exact ((hC.2 j ss hj).2 i q hi).1, ((hC.2 j ss hj).2 i q hi).2.keepS (by rw [f 108 (by omega) (by omega)]) (fun i _ _ => by rw [f 109 (by omega) (by omega)])⟩⟩⟩, fun i hi => by rw [f 116 (by omega) (by omega)]; exact hf i hi⟩
theorem rSc.same (h : rSc I sc) (f : ∀ b, (b = 105 ∨ b = 107 ∨ b = 108 ∨ b = 109 ∨ b = 110) → I' b = I b) : rSc I' sc := ⟨by rw [f 105 (by omega)]; exact h.1, fun j ss hj => ⟨by rw [f 110 (by omega)]; exact (h.2 j ss hj).1, fun i q hi => ⟨by rw [f 107 (by omega)]; exact ((h.2 j ss hj).2 i q hi).1, ((h.2 j ss hj).2 i q hi).2.keepS (by rw [f 108 (by omega)]) (fun i _ _ => by rw [f 109 (by omega)])⟩⟩⟩
theorem rI.st (h : rI I t p M s hs im sc rf) (f : ∀ b, b ≠ 111 → I' b = I b) (S : rSt I' 111 0 s') : rI I' t p M s' hs im sc rf := by
  obtain ⟨hT, hR, hS, ⟨fs, hH⟩, hM, hC, hf⟩ := h
  exact ⟨hT.keep (by rw [f 105 (by omega)]) (f 106 (by omega)), ⟨by rw [f 105 (by omega)]; exact hR.1, fun hp => by rw [f 105 (by omega)]; exact hR.2 hp⟩, S, ⟨fs, hH.keep (by rw [f 105 (by omega)]) (by rw [f 105 (by omega)]) (f 114 (by omega))⟩, hM.keep (by rw [f 105 (by omega)]) (f 113 (by omega)), hC.same (fun b hb => f b (by omega)), fun i hi => by rw [f 116 (by omega)]; exact hf i hi⟩
theorem r_ref (hsh : qSh g) {k : Nat} (hk : k < 6) (h : rI I t p M s hs im sc rf) {x : Int32} (hx : x = nI k) (kk : ∀ I', rI I' t p M s hs im sc (bump rf k) → (∀ b, b ≠ 116 → I' b = I b) → Q (some (.int (-1))) g I' J) : qC d 213 [.ref 105, .int x] g I J Q := by
  obtain ⟨hT, hR, hS, ⟨fs, hH⟩, hM, hC, hf⟩ := h
  subst hx
  refine w213 hsh ⟨k, rfl, hk, k, rfl, hk, kk _ ?_ (fun b hb => zu_a hb)⟩
  have f : ∀ b, b ≠ 116 → qw I 116 k (I 116 k + nI 1) b = I b := fun b hb => zu_a hb
  refine ⟨hT.keep (by rw [f 105 (by omega)]) (f 106 (by omega)), ⟨by rw [f 105 (by omega)]; exact hR.1, fun hp => by rw [f 105 (by omega)]; exact hR.2 hp⟩, hS.keep (f 111 (by omega)), ⟨fs, hH.keep (by rw [f 105 (by omega)]) (by rw [f 105 (by omega)]) (f 114 (by omega))⟩, hM.keep (by rw [f 105 (by omega)]) (f 113 (by omega)), hC.same (fun b hb => f b (by omega)), fun i hi => ?_⟩
  unfold bump
  by_cases e : i = k
  · rw [if_pos e, e, zu_s, hf k hk]
  · rw [if_neg e, zu_k e]; exact hf i hi
theorem r_kept (hsh : qSh g) (ok : okW p M s hs im sc) (h : rI I t p M s hs im sc rf) (k : ∀ I', rI I' t p M s (pushH hs s) im sc rf → (∀ b, b ≠ 105 → b ≠ 114 → I' b = I b) → (∀ q, q ≠ 21 → q ≠ 22 → I' 105 q = I 105 q) → Q none g I' J) : qC (d + 1) 211 [.ref 105] g I J Q := by
  obtain ⟨hT, hR, hS, ⟨fs, hH⟩, hM, hC, hf⟩ := h
  refine r_rem hsh hH hS ok.bd.1 ok.bd.2.1 (fun I1 fs1 hH1 f f2 => k I1 ⟨hT.keep (f2 2 (by omega) (by omega)) (f 106 (by omega) (by omega)), ⟨by rw [f2 7 (by omega) (by omega)]; exact hR.1, fun hp => by rw [f2 8 (by omega) (by omega)]; exact hR.2 hp⟩, hS.keep (f 111 (by omega) (by omega)), ⟨fs1, hH1⟩, hM.keep (f2 23 (by omega) (by omega)) (f 113 (by omega) (by omega)), ⟨by rw [f2 13 (by omega) (by omega)]; exact hC.1, fun j ss hj => ⟨by rw [f 110 (by omega) (by omega)]; exact (hC.2 j ss hj).1, fun i q hi => ⟨by rw [f 107 (by omega) (by omega)]; exact ((hC.2 j ss hj).2 i q hi).1, ((hC.2 j ss hj).2 i q hi).2.keepS (by rw [f 108 (by omega) (by omega)]) (fun i _ _ => by rw [f 109 (by omega) (by omega)])⟩⟩⟩, fun i hi => by rw [f 116 (by omega) (by omega)]; exact hf i hi⟩ f f2)
theorem okW.p_lt (ok : okW p M s hs im sc) : p < 998 := by
  by_cases h : p = 0
  · omega
  · exact (ok.ring h).1.2
theorem okW.l0 (ok : okW p M s hs im sc) : p = 0 → ∀ r, r < 8 → (s.1 r).1 = 0 := fun h r _ => by rw [(ok.no h).1]; rfl
theorem okW.hist (ok : okW p M s hs im sc) (hp : p ≠ 0) (hs' : okST p M s') : okW p M s' (pushH hs s) im sc := by
  obtain ⟨h1, h2, h3, h4, h5⟩ := ok.ring hp
  refine ⟨Or.inr ⟨h1, h2, hs', fun q hq => ?_, h5⟩, ok.2⟩
  rcases pushH_mem hq with h | h
  · exact h4 q h
  · rw [h]; exact h3
theorem rRg.R (h : rRg I p M) (ok : okW p M s hs im sc) (hp : p ≠ 0) : rR I p M := ⟨h.1, h.2 hp, (ok.ring hp).1, (ok.ring hp).2.1⟩
theorem kRg.R (h : kRg I p M) (ok : okW p M s hs im sc) (hp : p ≠ 0) : kR I p M := ⟨(h.2 hp).1, (h.2 hp).2, (ok.ring hp).1, (ok.ring hp).2.1⟩
theorem kRg.tt {A B : Prop} (h : kRg I p M) (h0 : p = 0 → A) (h1 : p ≠ 0 → B) : (I 4 14 = 0 → A) ∧ (¬ I 4 14 = 0 → B) := by
  rw [h.1]
  by_cases hp : p = 0
  · rw [if_pos hp]; exact br0 (h0 hp)
  · rw [if_neg hp]; exact br1 (h1 hp)
theorem rRg.tt {A B : Prop} (h : rRg I p M) (hp : p < 998) (h0 : p = 0 → A) (h1 : p ≠ 0 → B) : (I 105 7 = 0 → A) ∧ (¬ I 105 7 = 0 → B) := by
  rw [h.1, iI_z0, iI_eq (by omega) (by omega)]
  exact ⟨fun e => h0 (by omega), fun e => h1 (by omega)⟩
end UPD
