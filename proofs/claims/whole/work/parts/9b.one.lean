/-! calls: one, recur -/
section ONES
variable {d : Nat} {g : qG} {I I' : qI} {J : qJ} {Q : qQ} {t : List Nat} {p M n : Nat} {s s' : ST} {hs hs' : List ST} {im im' : Option ST} {sc : SC} {rf : RF} {x x1 x2 x3 : Int32} {regs : Nat → Sr} {a r q : Nat} {c : Nat → Int}
def oneC (n : Nat) (c : Nat → Int) : Prop := c 0 = 1 ∧ ∀ i, 1 ≤ i → i < n → c i = 0
theorem oneC_iff (hp : 2 ≤ p) (hn : 1 ≤ n) (k : Nat) : isU p n c k ↔ oneC n (zx p n (pw c k)) := by
  have e : pE p n (zx p n (pw c k)) (pw c k) := zx_E (Nat.le_refl _)
  constructor
  · intro h
    have h2 := pE.eq (by omega) (e.trans h) (fun i hi => by rw [zx_lt hi]; exact ⟨Int.emod_nonneg _ (by omega), Int.emod_lt_of_pos _ (by omega)⟩) (fun i _ => by unfold p1; split <;> omega)
    refine ⟨h2 0 (by omega), fun i a b => ?_⟩
    rw [h2 i b]; exact if_neg (by omega)
  · intro h
    refine e.symm.trans (pE.of (fun i hi => ?_))
    unfold p1
    by_cases h0 : i = 0
    · rw [if_pos h0, h0]; exact h.1
    · rw [if_neg h0]; exact h.2 i (by omega) hi
theorem r_isone_l (hsh : qSh g) {c' : Nat → Int} (hS : rS I 40 n c') (ho : okS p n c') (hp : p < 998) {i1 i3 : Int32} (k1 : oneC n c' → Q (some (.int i3)) g I J) (k0 : ¬ oneC n c' → ∀ w5 : Int32, qC (d + 1) 192 [.ref 105, .int (nI 40), .int (nI 0), .int (nI 41), .int (nI n)] g I J (fun v _ I1 _ => v = none ∧ qC (d + 1) 184 [.ref 105, .int (nI 41), .int (nI 40)] g I1 J (fun v _ I2 _ => v = none ∧ qev (d + 2) 259 (36, [.ref 105, .int i1, .int (nI n), .int (i3 + (nI 1)), .int (nI 0), .int w5], [], g, I2, J) Q))) : ∀ (f i : Nat) (b : Bool), i + f = n → 1 ≤ i → (b = true ↔ (c' 0 = 1 ∧ ∀ j, 1 ≤ j → j < i → c' j = 0)) → qev (d + 2) 259 (67, [.ref 105, .int i1, .int (nI n), .int i3, .int (nI (bI b)), .int (nI i)], [], g, I, J) Q
  | 0, i, b, hi, h1, hb => by
    have h24 := ho.1
    have e : i = n := by omega
    subst e
    refine w259_67 hsh (brT (by rw [nI_leI (by omega) (by omega)]; omega) ?_)
    cases b with
    | false => exact br0 (k0 (fun h => by have := hb.mpr h; cases this) _)
    | true => exact br1 (k1 (hb.mp rfl))
  | f + 1, i, b, hi, h1, hb => by
    have h24 := ho.1
    have b1 := ho.2.1 i
    refine w259_67 hsh (brN (by rw [nI_leI (by omega) (by omega)]; omega) ?_)
    rw [nI_add]
    cases b with
    | false => exact br0 (r_isone_l hsh hS ho hp k1 k0 f (i + 1) false (by omega) (by omega) ⟨fun h => (by cases h), fun h => hb.mpr ⟨h.1, fun j a1 a2 => h.2 j a1 (by omega)⟩⟩)
    | true =>
      refine br1 (r_c hsh (by omega) hS h24 ho.2.2 (by omega) rfl ⟨_, rfl, ?_⟩)
      have h2 := hb.mp rfl
      rw [iI_z0, iI_eq (by omega) (by omega)]
      by_cases h3 : c' i = 0
      · refine brT h3 (r_isone_l hsh hS ho hp k1 k0 f (i + 1) true (by omega) (by omega) ⟨fun _ => ⟨h2.1, fun j a1 a2 => ?_⟩, fun _ => rfl⟩)
        by_cases e : j = i
        · rw [e]; exact h3
        · exact h2.2 j a1 (by omega)
      · exact brN h3 (r_isone_l hsh hS ho hp k1 k0 f (i + 1) false (by omega) (by omega) ⟨fun h => (by cases h), fun h => absurd (h.2 i h1 (by omega)) h3⟩)
theorem r_ones_l (hsh : qSh g) (hr : rR I p M) (ho : okS p n c) (hn : 1 ≤ n) {i1 : Int32} (k : ∀ I' v, isOneV p n c v → rF (fun q => q = 40 ∨ q = 41) I I' → Q (some (.int (iI v))) g I' J) : ∀ (f j : Nat) (I' : qI) (w4 w5 : Value), j + f = 100 → 1 ≤ j → rS I' 0 n c → rS I' 40 n (zx p n (pw c j)) → rF (fun q => q = 40 ∨ q = 41) I I' → (∀ q, 1 ≤ q → q < j → ¬ isU p n c q) → qev (d + 3) 259 (36, [.ref 105, .int i1, .int (nI n), .int (nI j), w4, w5], [], g, I', J) Q
  | 0, j, I', w4, w5, hj, h1, hA, hW, hF, hno => by
    refine w259_36 hsh (brT (by rw [nI_ltI (by omega) (by omega)]; omega) ?_)
    have := k I' (-1) (Or.inl ⟨rfl, fun q a1 a2 => hno q a1 (by omega)⟩) hF
    rw [iI_zm1]
    exact this
  | f + 1, j, I', w4, w5, hj, h1, hA, hW, hF, hno => by
    have hp := hr.p2
    have h24 := ho.1
    have oz : okS p n (zx p n (pw c j)) := zx_ok (by omega) h24
    have z0 := oz.2.1 0
    have hR1 := hr.keep hF
    refine w259_36 hsh (brN (by rw [nI_ltI (by omega) (by omega)]; omega) (r_c hsh (by omega) hW h24 oz.2.2 (by omega) rfl ⟨_, rfl, r_by hsh hR1 (z := 1) (by omega) (lN_iL 1) ⟨_, rfl, ?_⟩⟩))
    rw [Int.emod_eq_of_lt (show (0 : Int) ≤ 1 by omega) (show (1 : Int) < p by omega), iI_eq (by omega) (by omega)]
    have fin : ∀ b : Bool, (b = true ↔ zx p n (pw c j) 0 = 1) → qev (d + 3) 259 (67, [.ref 105, .int i1, .int (nI n), .int (nI j), .int (nI (bI b)), .int (nI 1)], [], g, I', J) Q := by
      intro b hb
      refine r_isone_l hsh hW oz hp.2 (fun h3 => ?_) (fun h3 w5 => ?_) (n - 1) 1 b (by omega) (Nat.le_refl _) ⟨fun e => ⟨hb.mp e, fun q a1 a2 => absurd a2 (by omega)⟩, fun e => hb.mpr e.1⟩
      · rw [nI_iI]
        exact k I' j (Or.inr ⟨j, rfl, h1, by omega, (oneC_iff (by omega) hn j).mpr h3, hno⟩) hF
      · refine r_cuts hsh hR1 (r := 40) (by omega) (s := 0) (by omega) (to := 41) (by omega) (by omega) hW hA oz ho (L := n) (by omega) (fun I2 a1 f2 => ⟨rfl, ?_⟩)
        rw [zx_cv (zx_E (Nat.le_refl _)), ← pw_s] at a1
        refine r_copy hsh (s := 41) (by omega) (to := 40) (by omega) (by omega) a1 (by omega) (fun I3 b1 f3 => ⟨rfl, ?_⟩)
        rw [nI_add]
        refine r_ones_l hsh hr ho hn k f (j + 1) I3 _ _ (by omega) (by omega) ((hA.keep f2 (by omega) h24).keep f3 (by omega) h24) b1 (hF.trans ((f2.mono (fun q h => Or.inr h)).trans (f3.mono (fun q h => Or.inl h)))) (fun q a1 a2 => ?_)
        by_cases e : q = j
        · rw [e]; exact fun h => h3 ((oneC_iff (by omega) hn j).mp h)
        · exact hno q a1 (by omega)
    by_cases h3 : zx p n (pw c j) 0 = 1
    · exact brT h3 (fin true ⟨fun _ => h3, fun _ => rfl⟩)
    · exact brN h3 (fin false ⟨fun e => (by cases e), fun e => absurd e h3⟩)
theorem c_one (ok : okW p M s hs im sc) : bOK 124 259 [.int x1] (t, p, M, s, hs, im, sc, rf) := by
  by_cases hz : lnr s.1 x1 = 0
  · refine ⟨-1, (t, p, M, s, hs, im, sc, rf), ok, fun d g I J Q h k => ?_, fun d g I J Q hsh h k => ?_⟩
    · have h : kI g I t p M s hs im sc rf := h
      refine w124 h.1.1 (k_len h.1.1 h.2.2.2.2.2.1.1 ⟨_, rfl, ?_⟩)
      rw [hz]; exact br0 (k g I J h (kFr.refl g I))
    · have h : rI I t p M s hs im sc rf := h
      have h2 := h.keep ok rKp.th
      exact w259 hsh (r_heldI hsh ok h2 (fun h0 => absurd hz h0) (fun _ => ⟨_, rfl, br0 (k _ J h2 rKp.th.fr)⟩))
  · obtain ⟨r, hr, rfl, hn, hp, ho, hM, h24⟩ := ok.full hz
    have fin : ∀ v, (∀ w, isOneV p (s.1 r).1 (s.1 r).2 w → w = v) → bOK 124 259 [.int (nI r)] (t, p, M, s, hs, im, sc, rf) := by
      intro v hv
      refine ⟨iI v, (t, p, M, s, hs, im, sc, rf), ok, fun d g I J Q h k => ?_, fun d g I J Q hsh h k => ?_⟩
      · have h : kI g I t p M s hs im sc rf := h
        have hR := h.2.2.2.2.1.R ok hp
        have x87 := h.1.1.ser (a := 87) rfl (by omega)
        refine w124 h.1.1 (k_len h.1.1 h.2.2.2.2.2.1.1 ⟨_, rfl, ?_⟩)
        rw [lnr_at hr, ← nI_0, nI_eq (by omega) (by omega)]
        refine brN hn (k_load x87 (h.1.1.sta rfl (by omega)) (by omega) h.2.2.2.2.2.1.1 ok.bd.1.1 hr (fun I1 s1 f1 => ⟨rfl, k_one h.1.1 x87 (by omega) (hR.frame (f1 12 (by omega) (by omega))) s1 ho (by omega) hM (fun I2 w hw f2 => ⟨_, rfl, ?_⟩)⟩))
        rw [hv w hw]
        have f3 : ∀ b, b ≠ 16 → b ≠ 17 → b ≠ 87 → b ≠ 88 → I2 b = I b := fun b b1 b2 b3 b4 => by rw [f2 b b3 b4 b1 b2, f1 b b3 b4]
        exact k g I2 J (h.keep ⟨fun b hb => f3 b (by omega) (by omega) (by omega) (by omega), by rw [f3 4 (by omega) (by omega) (by omega) (by omega)], by rw [f3 4 (by omega) (by omega) (by omega) (by omega)], by rw [f3 4 (by omega) (by omega) (by omega) (by omega)], by rw [f3 8 (by omega) (by omega) (by omega) (by omega)]⟩) (kFr.same (fun b hb => f3 b (by omega) (by omega) (by omega) (by omega)))
      · have h : rI I t p M s hs im sc rf := h
        have h2 := h.keep ok rKp.th
        have hR := h2.2.1.R ok hp
        refine w259 hsh (r_heldI hsh ok h2 (fun _ => ⟨_, rfl, br1 (r_take hsh h2.2.2.1.1 hr (by omega) h24 (fun I1 f1 f2 s1 => ⟨rfl, r_copy hsh (s := 0) (by omega) (to := 40) (by omega) (by omega) s1 h24 (fun I2 s2 f3 => ⟨rfl, ?_⟩)⟩))⟩) (fun h0 => absurd h0 hz))
        have hR2 : rR I2 p M := rR.keep ⟨by rw [f1 105 (by omega)]; exact hR.1, by rw [f1 105 (by omega)]; exact hR.2.1, hR.2.2⟩ f3
        have s02 := s1.keep f3 (by omega) h24
        refine r_len hsh (by omega) s02.1 ⟨_, rfl, r_ones_l (d := d + 87) (I := I2) hsh hR2 ho (by omega) (fun I3 w hw f4 => ?_) 99 1 I2 _ _ (by omega) (Nat.le_refl _) s02 ?_ (rF.refl _ _) (fun q a1 a2 => absurd a2 (by omega))⟩
        · rw [hv w hw]
          have f5 := ((rKp.trans rKp.th (rKp.s115 f1)).trans f3.kp).trans f4.kp
          exact k I3 J (h.keep ok f5) f5.fr
        · rw [pw_1, ho.zx]; exact s2
    by_cases hv : ∃ v, isOneV p (s.1 r).1 (s.1 r).2 v
    · obtain ⟨v, hv⟩ := hv
      exact fin v (fun w hw => hw.uniq hv)
    · exact fin 0 (fun w hw => absurd ⟨w, hw⟩ hv)
theorem c_recur (ok : okW p M s hs im sc) : bOK 123 258 [.int x1, .int x2] (t, p, M, s, hs, im, sc, rf) := by
  obtain ⟨z, rfl, hz1, hz2⟩ := iI_of x2
  by_cases hz : lnr s.1 x1 = 0
  · refine ⟨-1, (t, p, M, s, hs, im, sc, rf), ok, fun d g I J Q h k => ?_, fun d g I J Q hsh h k => ?_⟩
    · have h : kI g I t p M s hs im sc rf := h
      refine w123 h.1.1 (k_len h.1.1 h.2.2.2.2.2.1.1 ⟨_, rfl, ?_⟩)
      rw [hz]; exact br0 (k g I J h (kFr.refl g I))
    · have h : rI I t p M s hs im sc rf := h
      have h2 := h.keep ok rKp.th
      exact w258 hsh (r_heldI hsh ok h2 (fun h0 => absurd hz h0) (fun _ => ⟨_, rfl, br0 (k _ J h2 rKp.th.fr)⟩))
  · obtain ⟨r, hr, rfl, hn, hp, ho, hM, h24⟩ := ok.full hz
    have hRg := ok.ring hp
    have fin : ∀ v, (∀ w, recA p (s.1 r).1 (s.1 r).2 z w → w = v) → bOK 123 258 [.int (nI r), .int (iI z)] (t, p, M, s, hs, im, sc, rf) := by
      intro v hv
      refine ⟨iI v, (t, p, M, s, hs, im, sc, rf), ok, fun d g I J Q h k => ?_, fun d g I J Q hsh h k => ?_⟩
      · have h : kI g I t p M s hs im sc rf := h
        obtain ⟨bb, bs, hrc⟩ := h.2.1
        refine k_recur h.1.1 hrc (h.2.2.2.2.1.R ok hp) h.2.2.2.2.2.1.1 hRg.2.2.1.1 ⟨hz1, hz2⟩ (fun h0 => absurd (h0 r hr rfl) hn) (fun q hq e _ g1 I1 w e1 h1 hr1 f1 hw => ?_)
        rw [nI_eq (by omega) (by omega)] at e
        subst e
        rw [hv w hw]
        exact k g1 I1 J (h.keepE e1 h1 hr1 ⟨fun b hb => f1 b (by omega), by rw [f1 4 (by omega)], by rw [f1 4 (by omega)], by rw [f1 4 (by omega)], by rw [f1 8 (by omega)]⟩) ⟨fun b hb => f1 b (by omega), e1.grow, by rw [e1.2.2]; omega, by rw [e1.2.2]; omega⟩
      · have h : rI I t p M s hs im sc rf := h
        refine r_recur hsh (h.2.1.R ok hp) h.2.2.1.1 hRg.2.2.1.1 ⟨hz1, hz2⟩ (fun h0 => absurd (h0 r hr rfl) hn) (fun q hq e _ I1 w f1 f2 f3 hw => ?_)
        rw [nI_eq (by omega) (by omega)] at e
        subst e
        rw [hv w hw]
        have f5 : rKp I I1 := ⟨fun b b1 b2 b3 b4 b5 b6 b7 b8 b9 => f1 b b1 b7 b8 b9, fun f hf => f2 f (by omega), fun j _ => ⟨by rw [f1 107 (by omega) (by omega) (by omega) (by omega)], by rw [f1 108 (by omega) (by omega) (by omega) (by omega)]⟩, fun j _ => by rw [f1 109 (by omega) (by omega) (by omega) (by omega)], fun j _ => by rw [f1 110 (by omega) (by omega) (by omega) (by omega)]⟩
        exact k I1 J (h.keep ok f5) f5.fr
    by_cases hv : ∃ v, recA p (s.1 r).1 (s.1 r).2 z v
    · obtain ⟨v, hv⟩ := hv
      exact fin v (fun w hw => recA_uniq hRg.1 hw hv)
    · exact fin 0 (fun w hw => absurd ⟨w, hw⟩ hv)
end ONES
