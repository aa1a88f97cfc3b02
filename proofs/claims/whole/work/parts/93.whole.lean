/-! the whole: one state for class and reference -/
abbrev SC : Type := List (List SP)
abbrev RF : Type := Nat → Int32
def s0 : ST := (fun _ => dS, [])
def okSP (s : SP) : Prop := s.1 < 8 ∧ wf s.2 ∧ s.2.length ≤ 128
def okSS (ss : List SP) : Prop := 1 ≤ ss.length ∧ ss.length ≤ 8 ∧ ∀ s, s ∈ ss → okSP s
def okW (p M : Nat) (s : ST) (hs : List ST) (im : Option ST) (sc : SC) : Prop :=
  ((p = 0 ∧ s = s0 ∧ hs = [] ∧ im = none) ∨ (pr p ∧ (2 ≤ M ∧ M ≤ 24) ∧ okST p M s ∧ (∀ q, q ∈ hs → okST p M q) ∧ ∀ q, im = some q → okST p M q)) ∧ sc.length ≤ 4 ∧ ∀ ss, ss ∈ sc → okSS ss
section OKW
variable {p M : Nat} {s : ST} {hs : List ST} {im : Option ST} {sc : SC}
theorem s0_bd : bdST s0 := ⟨fun r _ => Nat.zero_le _, Nat.zero_le _⟩
theorem okW.bd (h : okW p M s hs im sc) : bdST s ∧ (∀ q, q ∈ hs → bdST q) ∧ ∀ q, im = some q → bdST q := by
  obtain ⟨⟨-, rfl, rfl, rfl⟩ | ⟨-, -, h1, h2, h3⟩, -⟩ := h
  · exact ⟨s0_bd, fun q hq => (by cases hq), fun q hq => (by cases hq)⟩
  · exact ⟨h1.bd, fun q hq => (h2 q hq).bd, fun q hq => (h3 q hq).bd⟩
theorem okW.ring (h : okW p M s hs im sc) (hp : p ≠ 0) : pr p ∧ (2 ≤ M ∧ M ≤ 24) ∧ okST p M s ∧ (∀ q, q ∈ hs → okST p M q) ∧ ∀ q, im = some q → okST p M q := by
  obtain ⟨⟨h0, -⟩ | h1, -⟩ := h
  · exact absurd h0 hp
  · exact h1
theorem okW.no (h : okW p M s hs im sc) (hp : p = 0) : s = s0 ∧ hs = [] ∧ im = none := by
  obtain ⟨⟨-, h0⟩ | h1, -⟩ := h
  · exact h0
  · have := h1.1.two; omega
theorem okW.mk (h1 : pr p) (h2 : 2 ≤ M ∧ M ≤ 24) (h3 : okST p M s) (h4 : ∀ q, q ∈ hs → okST p M q) (h5 : ∀ q, im = some q → okST p M q) (h6 : sc.length ≤ 4 ∧ ∀ ss, ss ∈ sc → okSS ss) : okW p M s hs im sc := ⟨Or.inr ⟨h1, h2, h3, h4, h5⟩, h6⟩
end OKW
/-! the class's side -/
def kRg (I : qI) (p M : Nat) : Prop := I 4 14 = nI (if p = 0 then 0 else 1) ∧ (p ≠ 0 → I 12 7 = iI p ∧ I 12 8 = nI M)
def kIm (I : qI) (im : Option ST) : Prop := match im with
  | none => I 4 15 = nI 0
  | some s => I 4 15 = nI 1 ∧ kSt I 97 s
def kSc (g : qG) (I : qI) (sc : SC) : Prop := I 4 13 = nI sc.length ∧ ∀ j ss, sc[j]? = some ss → ∃ x n, g.2.1 103 j = some x ∧ 120 ≤ x ∧ x + 3 < g.2.2.1 ∧ qCod g x n ∧ n < 1000 ∧ kCode I x n ss
def kI (g : qG) (I : qI) (t : List Nat) (p M : Nat) (s : ST) (hs : List ST) (im : Option ST) (sc : SC) (rf : RF) : Prop :=
  gOk g ∧ (∃ bb bs, kRc g bb bs) ∧ I 8 0 = nI 0 ∧ kTp t I ∧ kRg I p M ∧ kSt I 89 s ∧ (∃ nx, kH g I nx hs) ∧ kIm I im ∧ kSc g I sc ∧ ∀ i, i < 6 → I 104 i = rf i
/-! the reference's side -/
def rRg (I : qI) (p M : Nat) : Prop := I 105 7 = iI p ∧ (p ≠ 0 → I 105 8 = nI M)
def rIm (I : qI) (im : Option ST) : Prop := match im with
  | none => I 105 23 = nI 0
  | some s => I 105 23 = nI 1 ∧ rSt I 113 0 s
def rSc (I : qI) (sc : SC) : Prop := I 105 13 = nI sc.length ∧ ∀ j ss, sc[j]? = some ss → I 110 j = nI ss.length ∧ rScr I (8 * j) ss
def rI (I : qI) (t : List Nat) (p M : Nat) (s : ST) (hs : List ST) (im : Option ST) (sc : SC) (rf : RF) : Prop :=
  rTp t I ∧ rRg I p M ∧ rSt I 111 0 s ∧ (∃ fs, rH I fs hs) ∧ rIm I im ∧ rSc I sc ∧ ∀ i, i < 6 → I 116 i = rf i
/-! what keeps them -/
section KEEPS
variable {g g' : qG} {I I' : qI} {t : List Nat} {p M : Nat} {s : ST} {hs : List ST} {im : Option ST} {sc : SC} {rf : RF}
theorem kCode.keep {x n : Nat} {ss : List SP} (h : kCode I x n ss) (h0 : I' x = I x) (h1 : I' (x + 1) = I (x + 1)) (h2 : I' (x + 2) = I (x + 2)) (h3 : I' (x + 3) = I (x + 3)) : kCode I' x n ss := by
  unfold kCode
  rw [h0, h1, h2, h3]
  exact h
theorem kH.keepE {nx : Nat} (h : kH g I nx hs) (hg : gOk g) (e : ∀ k, g'.2.1 102 k = g.2.1 102 k) (h1 : I' 101 = I 101) (h2 : ∀ b, 120 ≤ b → I' b = I b) : kH g' I' nx hs := by
  obtain ⟨a1, a2, a3, a4, a5⟩ := h
  refine ⟨by rw [h1]; exact a1, a2, by rw [h1]; exact a3, a4, fun j q hj => ?_⟩
  obtain ⟨b, b1, b2⟩ := a5 j q hj
  have := hg.2.2.1 _ b (Nat.mod_lt _ (by decide)) b1
  exact ⟨b, by rw [e]; exact b1, b2.keep (fun c c1 c2 => h2 c (by omega))⟩
theorem kSc.keepE (h : kSc g I sc) (e : ∀ k, g'.2.1 103 k = g.2.1 103 k) (hn : g.2.2.1 ≤ g'.2.2.1) (hc : ∀ x n, 120 ≤ x → x + 3 < g.2.2.1 → qCod g x n → qCod g' x n) (h1 : I' 4 13 = I 4 13) (h2 : ∀ x n, 120 ≤ x → x + 3 < g.2.2.1 → qCod g x n → ∀ b, x ≤ b → b ≤ x + 3 → I' b = I b) : kSc g' I' sc := by
  refine ⟨by rw [h1]; exact h.1, fun j ss hj => ?_⟩
  obtain ⟨x, n, a1, a2, a3, a4, a5, a6⟩ := h.2 j ss hj
  have f := h2 x n a2 a3 a4
  exact ⟨x, n, by rw [e]; exact a1, a2, by omega, hc x n a2 a3 a4, a5, a6.keep (f _ (by omega) (by omega)) (f _ (by omega) (by omega)) (f _ (by omega) (by omega)) (f _ (by omega) (by omega))⟩
theorem kIm.keep (h : kIm I im) (h1 : I' 4 15 = I 4 15) (h2 : ∀ b, 97 ≤ b → b ≤ 100 → I' b = I b) : kIm I' im := by
  cases im with
  | none => exact (by show I' 4 15 = nI 0; rw [h1]; exact h)
  | some q => exact ⟨by rw [h1]; exact h.1, h.2.keep (fun b b1 b2 => h2 b b1 (by omega))⟩
theorem kRg.keep (h : kRg I p M) (h1 : I' 4 14 = I 4 14) (h2 : I' 12 = I 12) : kRg I' p M := ⟨by rw [h1]; exact h.1, fun hp => by rw [h2]; exact h.2 hp⟩
/-- cells of the class that a call may write over -/
def kKp (I I' : qI) : Prop := (∀ b, (b = 5 ∨ b = 6 ∨ b = 12 ∨ (89 ≤ b ∧ b ≤ 92) ∨ (97 ≤ b ∧ b ≤ 104) ∨ 120 ≤ b) → I' b = I b) ∧ I' 4 13 = I 4 13 ∧ I' 4 14 = I 4 14 ∧ I' 4 15 = I 4 15 ∧ I' 8 0 = I 8 0
theorem kKp.refl (I : qI) : kKp I I := ⟨fun _ _ => rfl, rfl, rfl, rfl, rfl⟩
theorem kKp.trans {I I1 I2 : qI} (h : kKp I I1) (h2 : kKp I1 I2) : kKp I I2 := ⟨fun b hb => by rw [h2.1 b hb, h.1 b hb], by rw [h2.2.1, h.2.1], by rw [h2.2.2.1, h.2.2.1], by rw [h2.2.2.2.1, h.2.2.2.1], by rw [h2.2.2.2.2, h.2.2.2.2]⟩
theorem gE.ok (e : gE g g') (h : gOk g) (hq : qSh g') : gOk g' := by
  obtain ⟨-, h1, h2, h3⟩ := h
  refine ⟨hq, by rw [e.2.2]; exact h1, fun i b hi hb => ?_, fun i j b hi hj hb hc => ?_⟩
  · rw [e.2.1 102 (by omega)] at hb
    obtain ⟨a1, a2, a3⟩ := h2 i b hi hb
    refine ⟨a1, by rw [e.2.2]; exact a2, ?_⟩
    unfold qSta
    rw [e.1, e.2.1 b (by omega)]
    exact a3
  · rw [e.2.1 102 (by omega)] at hb hc
    exact h3 i j b hi hj hb hc
theorem kI.keepE (h : kI g I t p M s hs im sc rf) (e : gE g g') (hq : qSh g') (hr : ∃ bb bs, kRc g' bb bs) (f : kKp I I') : kI g' I' t p M s hs im sc rf := by
  obtain ⟨hg, hrc, h80, hT, hR, hS, ⟨nx, hH⟩, hM, hC, hf⟩ := h
  obtain ⟨f1, f2, f3, f4, f5⟩ := f
  refine ⟨e.ok hg hq, hr, by rw [f5]; exact h80, hT.keep (f1 5 (by omega)) (f1 6 (by omega)), hR.keep f3 (f1 12 (by omega)), hS.keep (fun b b1 b2 => f1 b (by omega)), ⟨nx, hH.keepE hg (fun k => by rw [e.2.1 102 (by omega)]) (f1 101 (by omega)) (fun b hb => f1 b (by omega))⟩, hM.keep f4 (fun b b1 b2 => f1 b (by omega)), hC.keepE (fun k => by rw [e.2.1 103 (by omega)]) (by rw [e.2.2]; exact Nat.le_refl _) (fun x n h1 h2 h3 => ?_) f2 (fun x n h1 h2 h3 b b1 b2 => f1 b (by omega)), fun i hi => by rw [f1 104 (by omega)]; exact hf i hi⟩
  unfold qCod
  rw [e.1, e.2.1 x (by omega)]
  exact h3
theorem kI.keep (h : kI g I t p M s hs im sc rf) (f : kKp I I') : kI g I' t p M s hs im sc rf := h.keepE (gE.refl g) h.1.1 h.2.1 f
theorem kI.fr (h : kI g I t p M s hs im sc rf) (f : ∀ b, (b < 105 ∨ 120 ≤ b) → I' b = I b) : kI g I' t p M s hs im sc rf := h.keep ⟨fun b hb => f b (by omega), by rw [f 4 (by omega)], by rw [f 4 (by omega)], by rw [f 4 (by omega)], by rw [f 8 (by omega)]⟩
/-- cells of the reference that a call may write over -/
def rKp (I I' : qI) : Prop := (∀ b, b ≠ 105 → b ≠ 107 → b ≠ 108 → b ≠ 109 → b ≠ 110 → b ≠ 112 → b ≠ 115 → b ≠ 117 → b ≠ 118 → I' b = I b) ∧ (∀ f, (f = 2 ∨ f = 7 ∨ f = 8 ∨ f = 13 ∨ f = 21 ∨ f = 22 ∨ f = 23) → I' 105 f = I 105 f) ∧ (∀ j, j < 32 → I' 107 j = I 107 j ∧ I' 108 j = I 108 j) ∧ (∀ j, j < 280 * 32 → I' 109 j = I 109 j) ∧ ∀ j, j < 4 → I' 110 j = I 110 j
theorem rKp.refl (I : qI) : rKp I I := ⟨fun _ _ _ _ _ _ _ _ _ _ => rfl, fun _ _ => rfl, fun _ _ => ⟨rfl, rfl⟩, fun _ _ => rfl, fun _ _ => rfl⟩
theorem rKp.trans {I I1 I2 : qI} (h : rKp I I1) (h2 : rKp I1 I2) : rKp I I2 := ⟨fun b b1 b2 b3 b4 b5 b6 b7 b8 b9 => by rw [h2.1 b b1 b2 b3 b4 b5 b6 b7 b8 b9, h.1 b b1 b2 b3 b4 b5 b6 b7 b8 b9], fun f hf => by rw [h2.2.1 f hf, h.2.1 f hf], fun j hj => ⟨by rw [(h2.2.2.1 j hj).1, (h.2.2.1 j hj).1], by rw [(h2.2.2.1 j hj).2, (h.2.2.1 j hj).2]⟩, fun j hj => by rw [h2.2.2.2.1 j hj, h.2.2.2.1 j hj], fun j hj => by rw [h2.2.2.2.2 j hj, h.2.2.2.2 j hj]⟩
theorem rScr.keepK {b : Nat} {ss : List SP} (h : rScr I b ss) (f : rKp I I') (hb : b + ss.length ≤ 32) : rScr I' b ss := fun j q hj => by
  have hl := getE_lt hj
  obtain ⟨h1, h2⟩ := h j q hj
  obtain ⟨f1, f2⟩ := f.2.2.1 (b + j) (by omega)
  exact ⟨by rw [f1]; exact h1, h2.keepS f2 (fun i i1 i2 => f.2.2.2.1 i (by omega))⟩
theorem rSc.keep (h : rSc I sc) (f : rKp I I') (h4 : sc.length ≤ 4) (h8 : ∀ ss, ss ∈ sc → okSS ss) : rSc I' sc := ⟨by rw [f.2.1 13 (by omega)]; exact h.1, fun j ss hj => by
  have hl := getE_lt hj
  have := (h8 ss (List.mem_of_getElem? hj)).2.1
  obtain ⟨h1, h2⟩ := h.2 j ss hj
  exact ⟨by rw [f.2.2.2.2 j (by omega)]; exact h1, h2.keepK f (by omega)⟩⟩
theorem rIm.keep (h : rIm I im) (h1 : I' 105 23 = I 105 23) (h2 : I' 113 = I 113) : rIm I' im := by
  cases im with
  | none => exact (by show I' 105 23 = nI 0; rw [h1]; exact h)
  | some q => exact ⟨by rw [h1]; exact h.1, h.2.keep h2⟩
theorem rI.keep (h : rI I t p M s hs im sc rf) (ok : okW p M s hs im sc) (f : rKp I I') : rI I' t p M s hs im sc rf := by
  obtain ⟨hT, hR, hS, ⟨fs, hH⟩, hM, hC, hf⟩ := h
  have f1 : ∀ b, b ≠ 105 → b ≠ 107 → b ≠ 108 → b ≠ 109 → b ≠ 110 → b ≠ 112 → b ≠ 115 → b ≠ 117 → b ≠ 118 → I' b = I b := f.1
  have e : ∀ b, (b = 106 ∨ b = 111 ∨ b = 113 ∨ b = 114 ∨ b = 116) → I' b = I b := fun b hb => f1 b (by omega) (by omega) (by omega) (by omega) (by omega) (by omega) (by omega) (by omega) (by omega)
  have f2 := f.2.1
  exact ⟨hT.keep (f2 2 (by omega)) (e 106 (by omega)), ⟨by rw [f2 7 (by omega)]; exact hR.1, fun hp => by rw [f2 8 (by omega)]; exact hR.2 hp⟩, hS.keep (e 111 (by omega)), ⟨fs, hH.keep (f2 21 (by omega)) (f2 22 (by omega)) (e 114 (by omega))⟩, hM.keep (f2 23 (by omega)) (e 113 (by omega)), hC.keep f ok.2.1 ok.2.2, fun i hi => by rw [e 116 (by omega)]; exact hf i hi⟩
theorem rI.fr (h : rI I t p M s hs im sc rf) (ok : okW p M s hs im sc) (f : ∀ b, (105 ≤ b ∧ b < 119) → I' b = I b) : rI I' t p M s hs im sc rf := by
  obtain ⟨hT, hR, hS, ⟨fs, hH⟩, hM, hC, hf⟩ := h
  have e7 : I' 107 = I 107 := f 107 (by omega)
  exact ⟨hT.keep (by rw [f 105 (by omega)]) (f 106 (by omega)), ⟨by rw [f 105 (by omega)]; exact hR.1, fun hp => by rw [f 105 (by omega)]; exact hR.2 hp⟩, hS.keep (f 111 (by omega)), ⟨fs, hH.keep (by rw [f 105 (by omega)]) (by rw [f 105 (by omega)]) (f 114 (by omega))⟩, hM.keep (by rw [f 105 (by omega)]) (f 113 (by omega)), ⟨by rw [f 105 (by omega)]; exact hC.1, fun j ss hj => ⟨by rw [f 110 (by omega)]; exact (hC.2 j ss hj).1, fun i q hi => ⟨by rw [e7]; exact ((hC.2 j ss hj).2 i q hi).1, ((hC.2 j ss hj).2 i q hi).2.keepS (by rw [f 108 (by omega)]) (fun i _ _ => by rw [f 109 (by omega)])⟩⟩⟩, fun i hi => by rw [f 116 (by omega)]; exact hf i hi⟩
/-! the face of a call -/
def kFr (g g' : qG) (I I' : qI) : Prop := (∀ b, (b < 4 ∨ (105 ≤ b ∧ b < 120)) → I' b = I b) ∧ gGrow g g' ∧ g'.2.2.1 ≤ g.2.2.1 + 160 ∧ g'.2.2.2 ≤ g.2.2.2 + 10560
theorem gGrow.refl (g : qG) : gGrow g g := ⟨Nat.le_refl _, fun _ _ => rfl⟩
theorem gE.grow (e : gE g g') : gGrow g g' := ⟨by rw [e.2.2]; exact Nat.le_refl _, fun a _ => by rw [e.1]⟩
theorem kFr.same (f : ∀ b, (b < 4 ∨ (105 ≤ b ∧ b < 120)) → I' b = I b) : kFr g g I I' := ⟨f, gGrow.refl g, by omega, by omega⟩
theorem kFr.refl (g : qG) (I : qI) : kFr g g I I := kFr.same (fun _ _ => rfl)
def rFw (I I' : qI) : Prop := ∀ b, (b < 105 ∨ 119 ≤ b) → I' b = I b
theorem rFw.refl (I : qI) : rFw I I := fun _ _ => rfl
theorem rKp.fr (f : rKp I I') : rFw I I' := fun b hb => f.1 b (by omega) (by omega) (by omega) (by omega) (by omega) (by omega) (by omega) (by omega) (by omega)
/-- 'thrown' is 0 -/
theorem rKp.th : rKp I (qw I 105 0 (nI 0)) := ⟨fun b b1 _ _ _ _ _ _ _ _ => zu_a b1, fun f hf => zu_k (by omega), fun j _ => ⟨by rw [zu_a (by omega)], by rw [zu_a (by omega)]⟩, fun j _ => by rw [zu_a (by omega)], fun j _ => by rw [zu_a (by omega)]⟩
theorem rF.kp {S : Nat → Prop} (f : rF S I I') : rKp I I' := ⟨fun b b1 b2 b3 b4 b5 b6 b7 b8 b9 => f.1 b b7, fun q _ => by rw [f.1 105 (by omega)], fun j _ => ⟨by rw [f.1 107 (by omega)], by rw [f.1 108 (by omega)]⟩, fun j _ => by rw [f.1 109 (by omega)], fun j _ => by rw [f.1 110 (by omega)]⟩
theorem rKp.s115 (f : ∀ b, b ≠ 115 → I' b = I b) : rKp I I' := ⟨fun b b1 b2 b3 b4 b5 b6 b7 b8 b9 => f b b7, fun q _ => by rw [f 105 (by omega)], fun j _ => ⟨by rw [f 107 (by omega)], by rw [f 108 (by omega)]⟩, fun j _ => by rw [f 109 (by omega)], fun j _ => by rw [f 110 (by omega)]⟩
abbrev W8 : Type := List Nat × Nat × Nat × ST × List ST × Option ST × SC × RF
def kIw (g : qG) (I : qI) (w : W8) : Prop := kI g I w.1 w.2.1 w.2.2.1 w.2.2.2.1 w.2.2.2.2.1 w.2.2.2.2.2.1 w.2.2.2.2.2.2.1 w.2.2.2.2.2.2.2
def rIw (I : qI) (w : W8) : Prop := rI I w.1 w.2.1 w.2.2.1 w.2.2.2.1 w.2.2.2.2.1 w.2.2.2.2.2.1 w.2.2.2.2.2.2.1 w.2.2.2.2.2.2.2
def okV (w : W8) : Prop := okW w.2.1 w.2.2.1 w.2.2.2.1 w.2.2.2.2.1 w.2.2.2.2.2.1 w.2.2.2.2.2.2.1
def kOK (m : Nat) (as : List Value) (w : W8) (v : Int32) (w' : W8) : Prop := ∀ (d : Nat) (g : qG) (I : qI) (J : qJ) (Q : qQ), kIw g I w → (∀ g' I' J', kIw g' I' w' → kFr g g' I I' → Q (some (.int v)) g' I' J') → qC (d + 90) m (.ref 4 :: as) g I J Q
def rOK (m : Nat) (as : List Value) (w : W8) (v : Int32) (w' : W8) : Prop := ∀ (d : Nat) (g : qG) (I : qI) (J : qJ) (Q : qQ), qSh g → rIw I w → (∀ I' J', rIw I' w' → rFw I I' → Q (some (.int v)) g I' J') → qC (d + 90) m (.ref 105 :: as) g I J Q
def bOK (m m' : Nat) (as : List Value) (w : W8) : Prop := ∃ v w', okV w' ∧ kOK m as w v w' ∧ rOK m' as w v w'
end KEEPS
/-! numbers in bounds -/
section BOUNDS
variable {d : Nat} {g : qG} {I : qI} {J : qJ} {Q : qQ} {x : Int32} {k : Nat} {A B A' : Prop}
theorem cls (x : Int32) (k : Nat) (hk : k < 2 ^ 31) : (∃ r, r < k ∧ x = nI r) ∨ ∀ r, r < k → x ≠ nI r := by
  rcases pk_ix x hk with h | h | ⟨j, h1, h2⟩
  · exact Or.inr (fun r hr e => by rw [e] at h; exact absurd h (nI_pos (by omega)))
  · exact Or.inr (fun r hr e => by rw [e, nI_leI (by omega) (by omega)] at h; omega)
  · exact Or.inl ⟨j, h1, h2⟩
theorem out_of (h : ∀ r, r < k → x ≠ nI r) (hk : k < 2 ^ 31) : x < 0 ∨ nI k ≤ x := by
  rcases pk_ix x hk with h1 | h1 | ⟨j, h1, h2⟩
  · exact Or.inl h1
  · exact Or.inr h1
  · exact absurd h2 (h j h1)
theorem brI (hk : k < 2 ^ 31) (h1 : ∀ r, r < k → x = nI r → B) (h0 : (∀ r, r < k → x ≠ nI r) → A ∧ A') : (x < 0 → A) ∧ (¬ x < 0 → ((x < nI k → B) ∧ (¬ x < nI k → A'))) := by
  rcases cls x k hk with ⟨r, hr, e⟩ | h
  · have h9 := h1 r hr e
    subst e
    exact brN (nI_pos (by omega)) (brT (by rw [nI_ltI (by omega) hk]; exact hr) h9)
  · obtain ⟨a, b⟩ := h0 h
    refine ⟨fun _ => a, fun h2 => ⟨fun h3 => ?_, fun _ => b⟩⟩
    rcases pk_ix x hk with h4 | h4 | ⟨j, h4, h5⟩
    · exact absurd h4 h2
    · exact absurd h4 (Int32.not_le.mpr h3)
    · exact absurd h5 (h j h4)
theorem brIge (hk : k < 2 ^ 31) (h1 : ∀ r, r < k → x = nI r → B) (h0 : (∀ r, r < k → x ≠ nI r) → A ∧ A') : (x < 0 → A) ∧ (¬ x < 0 → ((nI k ≤ x → A') ∧ (¬ nI k ≤ x → B))) := by
  obtain ⟨a, b⟩ := brI hk h1 h0
  exact ⟨a, fun h => ⟨fun h2 => (b h).2 (Int32.not_lt.mpr h2), fun h2 => (b h).1 (Int32.not_le.mp h2)⟩⟩
theorem le_lt {x : Int32} {m : Nat} (hm : m + 1 < 2 ^ 31) : x ≤ nI m ↔ x < nI (m + 1) := by
  rw [Int32.le_iff_toInt_le, Int32.lt_iff_toInt_lt, nI_toInt (by omega), nI_toInt (by omega)]
  omega
theorem brIle {m : Nat} (hk : m + 1 < 2 ^ 31) (h1 : ∀ r, r < m + 1 → x = nI r → B) (h0 : (∀ r, r < m + 1 → x ≠ nI r) → A ∧ A') : (x < 0 → A) ∧ (¬ x < 0 → ((x ≤ nI m → B) ∧ (¬ x ≤ nI m → A'))) := by
  obtain ⟨a, b⟩ := brI hk h1 h0
  exact ⟨a, fun h => ⟨fun h2 => (b h).1 ((le_lt hk).mp h2), fun h2 => (b h).2 (fun h3 => h2 ((le_lt hk).mpr h3))⟩⟩
theorem brIgt {m : Nat} (hk : m + 1 < 2 ^ 31) (h1 : ∀ r, r < m + 1 → x = nI r → B) (h0 : (∀ r, r < m + 1 → x ≠ nI r) → A ∧ A') : (x < 0 → A) ∧ (¬ x < 0 → ((nI m < x → A') ∧ (¬ nI m < x → B))) := by
  obtain ⟨a, b⟩ := brIle hk h1 h0
  exact ⟨a, fun h => ⟨fun h2 => (b h).2 (Int32.not_le.mpr h2), fun h2 => (b h).1 (Int32.not_lt.mp h2)⟩⟩
theorem r_in {m : Nat} {w : Int64} (hw : w = lN m) (hk : m + 1 < 2 ^ 31) (h1 : ∀ r, r < m + 1 → x = nI r → Q (some (.int (nI 1))) g I J) (h0 : (∀ r, r < m + 1 → x ≠ nI r) → Q (some (.int (nI 0))) g I J) : qC d 147 [.long (Int32.toInt64 x), .long (lN 0), .long w] g I J Q := by
  obtain ⟨z, hz, hz1, hz2⟩ := iI_of x
  subst hz hw
  refine r_isIn (a := z) (b := 0) (c := m) (by rw [iI_l (by omega)]) (lN_iL 0) (lN_iL m) (by omega) (by omega) (by omega) (fun h => h1 z.toNat (by omega) ?_) (fun h => h0 (fun r hr e => ?_))
  · rw [nI_iI]; congr 1; omega
  · rw [nI_iI, iI_eq (by omega) (by omega)] at e; omega
/-- how far a REGISTER is known; 0 where there is none -/
def lnr (regs : Nat → Sr) (x : Int32) : Nat := if 0 ≤ x.toInt ∧ x.toInt < 8 then (regs x.toInt.toNat).1 else 0
theorem lnr_at {regs : Nat → Sr} {r : Nat} (hr : r < 8) : lnr regs (nI r) = (regs r).1 := by
  unfold lnr
  rw [nI_toInt (by omega), if_pos (by omega)]
  rfl
theorem lnr_no {regs : Nat → Sr} (h : ∀ r, r < 8 → x ≠ nI r) : lnr regs x = 0 := by
  unfold lnr
  by_cases h2 : 0 ≤ x.toInt ∧ x.toInt < 8
  · refine absurd ?_ (h x.toInt.toNat (by omega))
    apply Int32.toInt_inj.mp
    rw [nI_toInt (by omega)]
    omega
  · rw [if_neg h2]
theorem lnr_nz {regs : Nat → Sr} (h : lnr regs x ≠ 0) : ∃ r, r < 8 ∧ x = nI r ∧ (regs r).1 ≠ 0 := by
  rcases cls x 8 (by omega) with ⟨r, hr, rfl⟩ | h2
  · exact ⟨r, hr, rfl, by rw [lnr_at hr] at h; exact h⟩
  · exact absurd (lnr_no h2) h
theorem lnr_z {regs : Nat → Sr} (h : lnr regs x = 0) : ∀ r, r < 8 → x = nI r → (regs r).1 = 0 := fun r hr e => by rw [e, lnr_at hr] at h; exact h
theorem k_len {regs : Nat → Sr} (hs : qSh g) (hG : kG I 89 regs) (k : Q (some (.int (nI (lnr regs x)))) g I J) : qC d 135 [.ref 4, .int x] g I J Q := by
  refine w135 hs (brI (by omega) (fun r hr e => ⟨r, e, hr, ?_⟩) (fun h => ?_))
  · rw [(hG r hr).1, ← lnr_at (regs := regs) hr, ← e]; exact k
  · rw [lnr_no h] at k; exact ⟨k, k⟩
theorem r_rgs {p M : Nat} (hs : qSh g) (hR : rRg I p M) (hp : p < 998) (k1 : ∀ r, r < 8 → x = nI r → p ≠ 0 → Q (some (.int (nI 1))) g I J) (k0 : (p = 0 ∨ ∀ r, r < 8 → x ≠ nI r) → Q (some (.int (nI 0))) g I J) : qC (d + 1) 214 [.ref 105, .int x] g I J Q := by
  by_cases h0 : p = 0
  · refine w214 hs (brT ?_ (k0 (Or.inl h0)))
    rw [hR.1, h0]; decide +kernel
  · refine w214 hs (brN ?_ (r_in rfl (by omega) (fun r hr e => ⟨_, rfl, br1 (k1 r hr e h0)⟩) (fun h => ⟨_, rfl, br0 (k0 (Or.inr h))⟩)))
    rw [hR.1, iI_z0, iI_le (by omega) (by omega)]; omega
theorem r_held {p M : Nat} {regs : Nat → Sr} (hs : qSh g) (hR : rRg I p M) (hp : p < 998) (hG : rG I 111 0 regs) (hn : ∀ r, r < 8 → (regs r).1 ≤ 24) (h0 : p = 0 → ∀ r, r < 8 → (regs r).1 = 0) (k1 : ∀ r, r < 8 → x = nI r → p ≠ 0 → (regs r).1 ≠ 0 → Q (some (.int (nI 1))) g I J) (k0 : lnr regs x = 0 → Q (some (.int (nI 0))) g I J) : qC (d + 2) 215 [.ref 105, .int x] g I J Q := by
  refine w215 hs (r_rgs hs hR hp (fun r hr e hp0 => ⟨_, rfl, br1 ?_⟩) (fun h => ⟨_, rfl, br0 (k0 ?_)⟩))
  · subst e
    have h1 := (hG r hr).1
    have h2 := hn r hr
    rw [show 0 + 25 * r = 25 * r by omega] at h1
    refine ⟨25 * r, by rw [pk_mul], by omega, ?_⟩
    rw [h1, ← nI_0, nI_leI (by omega) (by omega)]
    by_cases h3 : (regs r).1 ≤ 0
    · exact brT h3 (k0 (by rw [lnr_at hr]; omega))
    · exact brN h3 (k1 r hr rfl hp0 (by omega))
  · rcases h with h | h
    · rcases cls x 8 (by omega) with ⟨r, hr, rfl⟩ | h2
      · rw [lnr_at hr]; exact h0 h r hr
      · exact lnr_no h2
    · exact lnr_no h
end BOUNDS
