/-! a STEP: its operations (numbered as the reference does), worked off on a stack -/
def dS : Sr := (0, fun _ => 0)
def two (w : Nat) : Bool := (Nat.ble 3 w && Nat.ble w 6) || Nat.ble 15 w
def xP (p M : Nat) (regs : Nat → Sr) (w a : Nat) : Sr := match w with
  | 0 => (M, sNum p a)
  | 1 => (M, sX)
  | _ => regs a
def xRun (p M : Nat) (regs : Nat → Sr) : List (Nat × Nat) → List Sr → Int × Sr
  | [], st => (-1, st.headD dS)
  | (w, a) :: rest, st => if w ≤ 2 then (if w = 2 ∧ (regs a).1 = 0 then (0, dS) else xRun p M regs rest (xP p M regs w a :: st)) else
    match two w with
    | true => match st with
      | h :: f :: s => if (x2o p M w f h).1 = -1 then xRun p M regs rest ((x2o p M w f h).2 :: s) else ((x2o p M w f h).1, dS)
      | _ => (1, dS)
    | false => match st with
      | f :: s => if (x1o p M w a f).1 = -1 then xRun p M regs rest ((x1o p M w a f).2 :: s) else ((x1o p M w a f).1, dS)
      | _ => (1, dS)
def hgt : List (Nat × Nat) → Nat → Option Nat
  | [], h => some h
  | (w, _) :: r, h => if w ≤ 2 then (if h < 24 then hgt r (h + 1) else none) else match two w with
    | true => if 2 ≤ h then hgt r (h - 1) else none
    | false => if 1 ≤ h then hgt r h else none
def wfO (o : Nat × Nat) : Prop := o.1 ≤ 16 ∧ o.2 ≤ 999 ∧ (o.1 = 2 → o.2 < 8) ∧ (o.1 = 13 → 2 ≤ o.2 ∧ o.2 ≤ 9) ∧ (o.1 = 14 → 1 ≤ o.2)
def wf (ops : List (Nat × Nat)) : Prop := (∀ o, o ∈ ops → wfO o) ∧ hgt ops 0 = some 1
def okG (p M : Nat) (regs : Nat → Sr) : Prop := ∀ r, r < 8 → (regs r).1 ≤ M ∧ okS p (regs r).1 (regs r).2
theorem zero_ok (p n : Nat) (hp : 0 < p) (hn : n ≤ 24) : okS p n (fun _ => 0) := ⟨hn, fun _ => by dsimp only; omega, fun _ _ => rfl⟩
theorem mkR {p M n : Nat} {c : Nat → Int} (h1 : 1 ≤ n) (h2 : n ≤ M) (h3 : okS p n c) : okR p M (n, c) := ⟨h1, h2, h3⟩
theorem iLn_bd {p M n : Nat} (hp : 2 ≤ p) (hM : 2 ≤ M) (hn : 1 ≤ n) : 1 ≤ iLn p M n ∧ iLn p M n ≤ M := by unfold iLn; omega
theorem x1_ok {p M w a : Nat} {f : Sr} (hp : pr p) (hM : 2 ≤ M ∧ M ≤ 24) (hf : okR p M f) (ha : w = 14 → 1 ≤ a) (hw : 7 ≤ w ∧ w ≤ 14) (h : (x1o p M w a f).1 = -1) : okR p M (x1o p M w a f).2 := by
  obtain ⟨n, c⟩ := f
  obtain ⟨q1, q2, o1⟩ := hf
  dsimp only at q1 q2 o1
  have hp2 := hp.two
  have h24 := o1.1
  have hd : w = 7 ∨ w = 8 ∨ w = 9 ∨ w = 10 ∨ w = 11 ∨ w = 12 ∨ w = 13 ∨ w = 14 := by omega
  rcases hd with rfl | rfl | rfl | rfl | rfl | rfl | rfl | rfl
  · exact ⟨pL_pos (by omega) q1, pL_le _ _ _ _, pC_ok (by omega) hM.2 _⟩
  · by_cases h2 : n < 2
    · have e9 : x1o p M 8 a (n, c) = (5, (n, c)) := if_pos h2
      rw [e9] at h; cases h
    · have e9 : x1o p M 8 a (n, c) = (-1, n - 1, sDer p n c) := if_neg h2
      rw [e9]
      exact ⟨show 1 ≤ n - 1 by omega, show n - 1 ≤ M by omega, sDer_ok (by omega) h24⟩
  · have hb := iLn_bd (p := p) (M := M) (n := n) hp2 hM.1 q1
    have this : okR p M (iLn p M n, sInt p (iLn p M n) c) := mkR hb.1 hb.2 (sInt_ok (by omega) (by omega))
    exact this
  · show okR p M (gLn p M n c, sLog p M n c)
    unfold gLn sLog
    by_cases h1 : n = 1
    · rw [if_pos h1, if_pos h1]
      exact ⟨Nat.le_refl _, show 1 ≤ M by omega, zero_ok p 1 (by omega) (by omega)⟩
    · rw [if_neg h1, if_neg h1]
      have hl := lL_bd (p := p) (c := c) hM.1 (show 2 ≤ n by omega)
      have hb := iLn_bd (p := p) (M := M) (n := lL p M n c) hp2 hM.1 hl.1
      exact mkR hb.1 hb.2 (sInt_ok (by omega) (by omega))
  · by_cases h0 : c 0 = 0
    · have e9 : x1o p M 11 a (n, c) = (-1, min n p, sExp p (min n p) c) := if_pos h0
      rw [e9]
      exact mkR (show 1 ≤ min n p by omega) (show min n p ≤ M by omega) (sExp_ok hp2 (by omega) (by omega))
    · have e9 : x1o p M 11 a (n, c) = (2, (n, c)) := if_neg h0
      rw [e9] at h; cases h
  · have this : okR p M (n, sRev p n c) := mkR q1 q2 ⟨h24, ?_, fun i hi => ppl_hi _ _ (by omega)⟩
    · exact this
    exact ppl_red (F := revF p c (iv p (c 1))) (by omega) (by omega) (fun k y => by
      unfold revF
      split
      · exact iv_red (by omega) _
      · exact ⟨Int.emod_nonneg _ (by omega), Int.emod_lt_of_pos _ (by omega)⟩) _
  · have h : whyRoot p a c = -1 := h
    have hsp := rt_spec p a (c 0) (p - 1) 1
    have hb : rt0 p a (c 0) ≤ p := by unfold rt0; omega
    have hne : rt0 p a (c 0) ≠ p := fun e => by
      unfold whyRoot at h
      split at h
      · cases h
      · split at h
        · cases h
        · first | cases h | (rw [if_pos e] at h; cases h)
    have hlt : rt0 p a (c 0) < p := by omega
    exact ⟨q1, q2, sRoot_ok q1 h24 hlt⟩
  · have ha := ha rfl
    have this : okR p M (min n a, tr (min n a) c) := mkR (by omega) (by omega) ⟨by omega, fun i => ?_, fun i hi => if_neg (by omega)⟩
    · exact this
    unfold tr
    split
    · exact o1.2.1 i
    · omega
theorem x2_ok {p M w : Nat} {f h : Sr} (hp : pr p) (hM : 2 ≤ M ∧ M ≤ 24) (hf : okR p M f) (hh : okR p M h) (hw : two w = true) (hw2 : w ≤ 16) (he : (x2o p M w f h).1 = -1) : okR p M (x2o p M w f h).2 := by
  obtain ⟨n, c⟩ := f
  obtain ⟨m, e⟩ := h
  obtain ⟨q1, q2, o1⟩ := hf
  obtain ⟨q3, q4, o2⟩ := hh
  dsimp only at q1 q2 o1 q3 q4 o2
  have hp2 := hp.two
  have h24 := o1.1
  have hd : w = 3 ∨ w = 4 ∨ w = 5 ∨ w = 6 ∨ w = 15 ∨ w = 16 := by
    unfold two at hw
    rw [Bool.or_eq_true, Bool.and_eq_true] at hw
    rcases hw with ⟨a, b⟩ | a
    · have := Nat.le_of_ble_eq_true a
      have := Nat.le_of_ble_eq_true b
      omega
    · have := Nat.le_of_ble_eq_true a
      omega
  have hz : ∀ F : Nat → Int, okR p M (min n m, zx p (min n m) F) := fun F => mkR (by omega) (by omega) (zx_ok (by omega) (by omega))
  rcases hd with rfl | rfl | rfl | rfl | rfl | rfl
  · exact hz _
  · exact hz _
  · have hl : 1 ≤ mln M n c m e ∧ mln M n c m e ≤ M := by unfold mln; omega
    have this : okR p M (mln M n c m e, zx p (mln M n c m e) (cv c e)) := mkR hl.1 hl.2 (zx_ok (by omega) (by omega))
    exact this
  · have he : whyDiv n m c e = -1 := he
    have hl : 1 ≤ qL p M n m c e ∧ qL p M n m c e ≤ M := by
      have v1 := od_le n c
      have v2 := od_le m e
      unfold whyDiv at he
      split at he
      · cases he
      · split at he
        · cases he
        · unfold qL mln; omega
    have this : okR p M (qL p M n m c e, sDiv p M n m c e) := mkR hl.1 hl.2 (zx_ok (by omega) (by omega))
    exact this
  · by_cases h0 : e 0 = 0
    · have e9 : x2o p M 15 (n, c) (m, e) = (-1, cLen M n m c e, sCmp p M n m c e) := if_pos h0
      rw [e9]
      have hv1 : 1 ≤ od m e := od_ge q3 (fun i hi => by rw [show i = 0 by omega]; exact h0)
      have hnv : 1 ≤ n * od m e := Nat.mul_pos (by omega) (by omega)
      have hl1 := cln_pos (M := M) (v := od m e) (m := m) (L0 := min M (n * od m e)) (c := c) (by omega) (by omega) q3 n
      have hl2 := cln_le (M := M) (v := od m e) (m := m) (L0 := min M (n * od m e)) (c := c) n
      have hl3 : cLen M n m c e ≤ 24 := by unfold cLen; omega
      exact mkR hl1 (Nat.le_trans hl2 (by omega)) (zx_ok (by omega) hl3)
    · have e9 : x2o p M 15 (n, c) (m, e) = (2, (n, c)) := if_neg h0
      rw [e9] at he; cases he
  · exact hz _
theorem sX_ok {p M : Nat} (hp : 2 ≤ p) (hM : 2 ≤ M ∧ M ≤ 24) : okS p M sX := ⟨hM.2, fun i => by unfold sX; split <;> omega, fun i hi => if_neg (by omega)⟩
theorem xP_ok {p M w a : Nat} {regs : Nat → Sr} (hp : pr p) (hM : 2 ≤ M ∧ M ≤ 24) (hG : okG p M regs) (hw : w ≤ 2) (ha : w = 2 → a < 8) (h : ¬ (w = 2 ∧ (regs a).1 = 0)) : okR p M (xP p M regs w a) := by
  have hp2 := hp.two
  have hd : w = 0 ∨ w = 1 ∨ w = 2 := by omega
  rcases hd with rfl | rfl | rfl
  · exact mkR (show 1 ≤ M by omega) (Nat.le_refl _) (sNum_ok (by omega) (by omega) _)
  · exact mkR (show 1 ≤ M by omega) (Nat.le_refl _) (sX_ok hp2 hM)
  · have := hG a (ha rfl)
    exact ⟨show 1 ≤ (regs a).1 by have : ¬ (regs a).1 = 0 := fun e => h ⟨rfl, e⟩; omega, this.1, this.2⟩
theorem xRun_ok {p M : Nat} {regs : Nat → Sr} (hp : pr p) (hM : 2 ≤ M ∧ M ≤ 24) (hG : okG p M regs) : ∀ (ops : List (Nat × Nat)) (st : List Sr), (∀ o, o ∈ ops → wfO o) → hgt ops st.length = some 1 → (∀ f, f ∈ st → okR p M f) → (xRun p M regs ops st).1 = -1 → okR p M (xRun p M regs ops st).2
  | [], st, _, hh, hs, _ => by
    unfold hgt at hh
    cases st with
    | nil => cases hh
    | cons f s => exact hs f List.mem_cons_self
  | (w, a) :: rest, st, ho, hh, hs, he => by
    have hw := ho _ List.mem_cons_self
    have ho' := fun o h => ho o (List.mem_cons_of_mem _ h)
    unfold wfO at hw
    dsimp only at hw
    unfold hgt at hh
    unfold xRun at he ⊢
    by_cases h2 : w ≤ 2
    · rw [if_pos h2] at hh he ⊢
      by_cases h3 : w = 2 ∧ (regs a).1 = 0
      · rw [if_pos h3] at he; cases he
      · rw [if_neg h3] at he ⊢
        by_cases h4 : st.length < 24
        · rw [if_pos h4] at hh
          exact xRun_ok hp hM hG rest _ ho' hh (fun f hf => (List.mem_cons.mp hf).elim (fun e => by rw [e]; exact xP_ok hp hM hG h2 hw.2.2.1 h3) (hs f)) he
        · rw [if_neg h4] at hh; cases hh
    · rw [if_neg h2] at hh he ⊢
      cases ht : two w with
      | true =>
        rw [ht] at hh he
        dsimp only at hh he ⊢
        cases st with
        | nil => cases he
        | cons h s =>
          cases s with
          | nil => cases he
          | cons f s =>
            dsimp only at he ⊢
            by_cases h3 : (x2o p M w f h).1 = -1
            · rw [if_pos h3] at he ⊢
              rw [if_pos (by simp only [List.length_cons]; omega)] at hh
              refine xRun_ok hp hM hG rest _ ho' (by simpa using hh) (fun q hq => (List.mem_cons.mp hq).elim (fun e => ?_) (fun h => hs q (List.mem_cons_of_mem _ (List.mem_cons_of_mem _ h)))) he
              rw [e]
              exact x2_ok hp hM (hs f (List.mem_cons_of_mem _ List.mem_cons_self)) (hs h List.mem_cons_self) ht hw.1 h3
            · rw [if_neg h3] at he; exact absurd he h3
      | false =>
        rw [ht] at hh he
        dsimp only at hh he ⊢
        cases st with
        | nil => cases he
        | cons f s =>
          dsimp only at he ⊢
          by_cases h3 : (x1o p M w a f).1 = -1
          · rw [if_pos h3] at he ⊢
            rw [if_pos (by simp only [List.length_cons]; omega)] at hh
            refine xRun_ok hp hM hG rest _ ho' (by simpa using hh) (fun q hq => (List.mem_cons.mp hq).elim (fun e => ?_) (fun h => hs q (List.mem_cons_of_mem _ h))) he
            rw [e]
            have h7 : 7 ≤ w ∧ w ≤ 14 := by
              unfold two at ht
              simp only [Bool.or_eq_false_iff, Bool.and_eq_false_iff] at ht
              have b1 : ¬ 15 ≤ w := fun h => by rw [Nat.ble_eq_true_of_le h] at ht; cases ht.2
              have b2 : ¬ w ≤ 6 := fun h => by
                rw [Nat.ble_eq_true_of_le h, Nat.ble_eq_true_of_le (show 3 ≤ w by omega)] at ht
                rcases ht.1 with h | h <;> cases h
              omega
            exact x1_ok hp hM (hs f List.mem_cons_self) hw.2.2.2.2 h7 h3
          · rw [if_neg h3] at he; exact absurd he h3
