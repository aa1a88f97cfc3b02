/-! the reference's fault -/
section RFAULT2
variable {d : Nat} {g : qG} {I : qI} {J : qJ} {Q : qQ} {i S : Nat} {t : List Nat}
theorem r_rng (hsh : qSh g) (hT : rTp t I) (hp : I 105 3 = nI 0) (h4 : I 105 4 = -1) (k : match ringP t with | .inl z => ∀ I', rGF I I' → I' 105 4 = nI z → z ≤ 320 → Q none g I' J | .inr q => ∀ I', rGF I I' → I' 105 4 = -1 → I' 105 5 = nI q.1 → I' 105 6 = nI q.2 → Q none g I' J) : qC (d + 3) 161 [.ref 105] g I J Q := by
  have hLn := hT.2.1
  have g0 : rGF I (qw (qw I 105 5 (nI 7)) 105 6 (nI 12)) := (rGF.w (Or.inl rfl)).trans (rGF.w (Or.inr rfl))
  have hT0 := hT.gf g0
  have e4 : qw (qw I 105 5 (nI 7)) 105 6 (nI 12) 105 4 = -1 := by rw [zu_k (by omega), zu_k (by omega)]; exact h4
  refine w161 hsh (r_sgn hsh hT0 (i := 0) (by rw [zu_k (by omega), zu_k (by omega)]; exact hp) (Nat.zero_le _) e4 (by omega) ?_)
  unfold ringP at k
  have hsg := sg_ok (t := t) (c := 115) (i := 0) (Nat.zero_le _) (by omega)
  cases hs : sg t 115 0 with
  | inl z =>
    rw [hs] at k hsg
    have hsg : z ≤ t.length := hsg
    refine fun I1 f1 p1 => ⟨rfl, brN (by rw [p1]; exact m1_ne (by omega)) (w161_42 hsh (brT rfl (brN (by rw [p1]; exact m1_ne (by omega)) (k I1 (g0.trans f1.gf) p1 (by omega)))))⟩
  | inr j =>
    rw [hs] at k hsg
    obtain ⟨s1, s2⟩ := hsg
    dsimp only at k
    refine fun I1 f1 p1 => ⟨rfl, brT (by rw [f1.2 4 (by omega)]; exact e4) (r_look hsh (hT0.nf f1) p1 s2 (fun I2 f2 p2 => ⟨_, rfl, ?_⟩))⟩
    have hb2 := hT.2.2.2 (sk t j)
    have f12 := f1.trans f2
    have go : ∀ v : Int32, rSpt t (sk t j) v → qev (d + 3) 161 (42, [.ref 105, .int (nI (mk false false)), .int v], [], g, I2, J) Q := fun v hv => r_ring_l hsh 3 j false false 7 12 I2 v (by decide) (hT0.nf f12) p2 s2 (by rw [f12.2 4 (by omega)]; exact e4) (by rw [f12.2 5 (by omega), zu_k (by omega), zu_s]) (by rw [f12.2 6 (by omega), zu_s]) hv (g0.trans f12.ff.gf) k
    exact r_pm hb2 (fun h => ⟨_, rfl, go _ (Or.inl ⟨h, rfl⟩)⟩) (fun h => ⟨_, rfl, go _ (Or.inr (Or.inl ⟨h, rfl⟩))⟩) (fun h h' => ⟨_, rfl, go _ (Or.inr (Or.inr ⟨h, h', rfl⟩))⟩)
theorem r_scr (hsh : qSh g) (hT : rTp t I) (hp : I 105 3 = nI 0) (h4 : I 105 4 = -1) (k : match stepsP t 8 0 [] with | .inl z => ∀ I', rTF 32 40 I I' → I' 105 4 = nI z → z ≤ 320 → Q none g I' J | .inr ss => ∀ I', rTF 32 40 I I' → I' 105 4 = -1 → I' 110 4 = nI ss.length → rScr I' 32 ss → Q none g I' J) : qC (d + 59) 172 [.ref 105] g I J Q :=
  w172 (r_scr_l hsh 8 0 0 [] I (by omega) (by omega) rfl hT hp (Nat.zero_le _) h4 (fun j s hj => (by cases hj)) (rTF.refl 32 40 I) k)
theorem fa_w (I : qI) : (∀ b, b ≠ 105 → qw (qw (qw I 105 0 (nI 0)) 105 3 (nI 0)) 105 4 (-1) b = I b) ∧ (∀ f, f ≠ 0 → f ≠ 3 → f ≠ 4 → qw (qw (qw I 105 0 (nI 0)) 105 3 (nI 0)) 105 4 (-1) 105 f = I 105 f) ∧ qw (qw (qw I 105 0 (nI 0)) 105 3 (nI 0)) 105 4 (-1) 105 0 = nI 0 ∧ qw (qw (qw I 105 0 (nI 0)) 105 3 (nI 0)) 105 4 (-1) 105 3 = nI 0 ∧ qw (qw (qw I 105 0 (nI 0)) 105 3 (nI 0)) 105 4 (-1) 105 4 = -1 :=
  ⟨fun b hb => by rw [zu_a hb, zu_a hb, zu_a hb], fun f f0 f3 f4 => by rw [zu_k f4, zu_k f3, zu_k f0], by rw [zu_k (by omega), zu_k (by omega), zu_s], by rw [zu_k (by omega), zu_s], zu_s⟩
/-- all that a reading leaves as it was -/
def rRF (I I' : qI) : Prop := (∀ b, b ≠ 105 → b ≠ 107 → b ≠ 108 → b ≠ 109 → b ≠ 110 → I' b = I b) ∧ (∀ f, f ≠ 0 → f ≠ 3 → f ≠ 4 → f ≠ 5 → f ≠ 6 → f ≠ 14 → f ≠ 15 → f ≠ 16 → I' 105 f = I 105 f) ∧ I' 105 0 = nI 0 ∧ (∀ j, j < 32 → I' 107 j = I 107 j ∧ I' 108 j = I 108 j) ∧ (∀ j, j < 280 * 32 → I' 109 j = I 109 j) ∧ ∀ j, j ≠ 4 → I' 110 j = I 110 j
theorem r_fault0 (hsh : qSh g) (hT : rTp t I) (k : match ringP t with | .inl z => ∀ I', rRF I I' → Q (some (.int (nI z))) g I' J | .inr q => ∀ I', rRF I I' → I' 105 5 = nI q.1 → I' 105 6 = nI q.2 → Q (some (.int (-1))) g I' J) : qC (d + 4) 174 [.ref 105, .int (nI 0)] g I J Q := by
  obtain ⟨w1, w2, w3, w4, w5⟩ := fa_w I
  refine w174 hsh (r_isIn (a := 0) (b := 0) (c := 2) (by rw [nI_iI, iI_l (by omega)]; rfl) (lN_iL 0) (lN_iL 2) (by omega) (by omega) (by omega) (fun _ => ⟨_, rfl, br1 (br0 ?_)⟩) (fun h => absurd (show (0 : Int) ≤ 0 ∧ (0 : Int) ≤ 2 by omega) h))
  have fr : ∀ {I' : qI}, rGF (qw (qw (qw I 105 0 (nI 0)) 105 3 (nI 0)) 105 4 (-1)) I' → rRF I I' := fun {I'} f => ⟨fun b b1 b2 b3 b4 b5 => by rw [f.1 b b1, w1 b b1], fun q q0 q3 q4 q5 q6 _ _ _ => by rw [f.2 q q3 q4 q5 q6, w2 q q0 q3 q4], by rw [f.2 0 (by omega) (by omega) (by omega) (by omega), w3], fun j _ => ⟨by rw [f.1 107 (by omega), w1 107 (by omega)], by rw [f.1 108 (by omega), w1 108 (by omega)]⟩, fun j _ => by rw [f.1 109 (by omega), w1 109 (by omega)], fun j _ => by rw [f.1 110 (by omega), w1 110 (by omega)]⟩
  refine r_rng hsh (hT.keep (w2 2 (by omega) (by omega) (by omega)) (w1 106 (by omega))) w4 w5 ?_
  cases hr : ringP t with
  | inl z => rw [hr] at k; exact fun I1 f1 p1 _ => ⟨rfl, by rw [p1]; exact k I1 (fr f1)⟩
  | inr q => rw [hr] at k; exact fun I1 f1 p1 p2 p3 => ⟨rfl, by rw [p1]; exact k I1 (fr f1) p2 p3⟩
theorem rTF.rf {lo hi : Nat} (h32 : 32 ≤ lo) {I I1 I' : qI} (f : rTF lo hi I1 I') (w1 : ∀ b, b ≠ 105 → I1 b = I b) (w2 : ∀ f, f ≠ 0 → f ≠ 3 → f ≠ 4 → I1 105 f = I 105 f) (w3 : I1 105 0 = nI 0) : rRF I I' := ⟨fun b b1 b2 b3 b4 b5 => by rw [f.1 b b1 b2 b3 b4 b5, w1 b b1], fun q q0 q3 q4 q5 q6 q7 q8 q9 => by rw [f.2.1 q q3 q4 q7 q8 q9, w2 q q0 q3 q4], by rw [f.2.1 0 (by omega) (by omega) (by omega) (by omega) (by omega), w3], fun j hj => ⟨by rw [(f.2.2.1 j (by omega)).1, w1 107 (by omega)], by rw [(f.2.2.1 j (by omega)).2, w1 108 (by omega)]⟩, fun j hj => by rw [f.2.2.2.1 j (by omega), w1 109 (by omega)], fun j hj => by rw [f.2.2.2.2 j hj, w1 110 (by omega)]⟩
theorem r_fault1 (hsh : qSh g) (hT : rTp t I) (k : match stepsP t 8 0 [] with | .inl z => ∀ I', rRF I I' → Q (some (.int (nI z))) g I' J | .inr ss => ∀ I', rRF I I' → I' 110 4 = nI ss.length → rScr I' 32 ss → Q (some (.int (-1))) g I' J) : qC (d + 60) 174 [.ref 105, .int (nI 1)] g I J Q := by
  obtain ⟨w1, w2, w3, w4, w5⟩ := fa_w I
  refine w174 hsh (r_isIn (a := 1) (b := 0) (c := 2) (by rw [nI_iI, iI_l (by omega)]; rfl) (lN_iL 0) (lN_iL 2) (by omega) (by omega) (by omega) (fun _ => ⟨_, rfl, br1 (brN (by decide +kernel) (brT rfl ?_))⟩) (fun h => absurd (show (0 : Int) ≤ 1 ∧ (1 : Int) ≤ 2 by omega) h))
  refine r_scr hsh (hT.keep (w2 2 (by omega) (by omega) (by omega)) (w1 106 (by omega))) w4 w5 ?_
  cases hr : stepsP t 8 0 [] with
  | inl z => rw [hr] at k; exact fun I1 f1 p1 _ => ⟨rfl, by rw [p1]; exact k I1 (f1.rf (by omega) w1 w2 w3)⟩
  | inr q => rw [hr] at k; exact fun I1 f1 p1 p2 p3 => ⟨rfl, by rw [p1]; exact k I1 (f1.rf (by omega) w1 w2 w3) p2 p3⟩
theorem r_fault2 (hsh : qSh g) (hT : rTp t I) (k : match stepsP t 1 0 [] with | .inl z => ∀ I', rRF I I' → Q (some (.int (nI z))) g I' J | .inr ss => ∀ I', rRF I I' → rScr I' 40 ss → ss.length = 1 → Q (some (.int (-1))) g I' J) : qC (d + 60) 174 [.ref 105, .int (nI 2)] g I J Q := by
  obtain ⟨w1, w2, w3, w4, w5⟩ := fa_w I
  refine w174 hsh (r_isIn (a := 2) (b := 0) (c := 2) (by rw [nI_iI, iI_l (by omega)]; rfl) (lN_iL 0) (lN_iL 2) (by omega) (by omega) (by omega) (fun _ => ⟨_, rfl, br1 (brN (by decide +kernel) (brN (by decide +kernel) ?_))⟩) (fun h => absurd (show (0 : Int) ≤ 2 ∧ (2 : Int) ≤ 2 by omega) h))
  refine r_onestep hsh (hT.keep (w2 2 (by omega) (by omega) (by omega)) (w1 106 (by omega))) w4 w5 ?_
  cases hr : stepsP t 1 0 [] with
  | inl z => rw [hr] at k; exact fun I1 f1 p1 _ => ⟨rfl, by rw [p1]; exact k I1 (f1.rf (by omega) w1 w2 w3)⟩
  | inr q => rw [hr] at k; exact fun I1 f1 p1 p2 p3 => ⟨rfl, by rw [p1]; exact k I1 (f1.rf (by omega) w1 w2 w3) p2 p3⟩
end RFAULT2
