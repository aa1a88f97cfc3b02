/-! the class works off a STEP -/
def kop (w : Nat) : Nat := match w with
  | 0 => 0
  | 1 => 1
  | 2 => 2
  | 3 => 11
  | 4 => 12
  | 5 => 13
  | 6 => 14
  | 7 => 3
  | 8 => 4
  | 9 => 5
  | 10 => 6
  | 11 => 7
  | 12 => 8
  | 13 => 9
  | 14 => 10
  | 15 => 15
  | _ => 16
def enc (o : Nat × Nat) : Nat := kop o.1 * 1000 + o.2
def kStk (I : qI) : List Sr → Prop
  | [] => True
  | f :: s => kS I (35 + 2 * s.length) f.1 f.2 ∧ kStk I s
theorem kStk.keep {I I' : qI} : ∀ {st : List Sr}, kStk I st → (∀ b, 35 ≤ b → b < 35 + 2 * st.length → I' b = I b) → kStk I' st
  | [], _, _ => trivial
  | f :: s, h, hf => ⟨h.1.frame (hf _ (by omega) (by simp only [List.length_cons]; omega)) (hf _ (by omega) (by simp only [List.length_cons]; omega)), kStk.keep h.2 (fun b h1 h2 => hf b h1 (by simp only [List.length_cons]; omega))⟩
/-- the REGISTERS of a state -/
def kG (I : qI) (a : Nat) (regs : Nat → Sr) : Prop := ∀ r, r < 8 → I (a + 1) r = nI (regs r).1 ∧ ∀ i, i < (regs r).1 → I (a + 2) (24 * r + i) = iI ((regs r).2 i)
theorem kG.keep {I I' : qI} {a : Nat} {regs : Nat → Sr} (h : kG I a regs) (h1 : I' (a + 1) = I (a + 1)) (h2 : I' (a + 2) = I (a + 2)) : kG I' a regs := fun r hr => ⟨by rw [h1]; exact (h r hr).1, fun i hi => by rw [h2]; exact (h r hr).2 i hi⟩
/-- what working changes: rows of its own -/
def kWF (I I' : qI) : Prop := ∀ b, (b < 13 ∨ (24 ≤ b ∧ b < 33) ∨ b = 34 ∨ 83 ≤ b) → I' b = I b
theorem kWF.refl (I : qI) : kWF I I := fun _ _ => rfl
theorem kWF.trans {I I1 I2 : qI} (h1 : kWF I I1) (h2 : kWF I1 I2) : kWF I I2 := fun b hb => by rw [h2 b hb, h1 b hb]
section KMACH
variable {d : Nat} {g : qG} {I : qI} {J : qJ} {Q : qQ} {p M n m x : Nat} {c e : Nat → Int} {regs : Nat → Sr}
theorem k_load (hx : qSer g x) {a : Nat} (ha : qSta g a) (hd : a + 2 < x ∨ x + 1 < a) (hG : kG I a regs) (hb : ∀ r, r < 8 → (regs r).1 ≤ 24) {r : Nat} (hr : r < 8) (k : ∀ I', kS I' x (regs r).1 (regs r).2 → (∀ b, b ≠ x → b ≠ x + 1 → I' b = I b) → Q none g I' J) : qC d 82 [.ref a, .int (nI r), .ref x] g I J Q := by
  refine w82 ha hx ⟨fun h3 => ?_, fun _ => ⟨fun _ => ⟨24 * r, 0, 24, by rw [pk_mul, Nat.mul_comm], rfl, rfl, by omega, by omega, r, rfl, hr, ?_⟩, fun h3 => ?_⟩⟩
  · exact absurd h3 (nI_pos (by omega))
  · have := hb r hr
    refine k _ ⟨?_, fun i hi => ?_⟩ (fun b h1 h2 => by rw [zu_a h1, zv_a h2])
    · rw [zu_s, zv_a (by omega)]; exact (hG r hr).1
    · rw [zu_a (by omega), zv_s, pk_cpy_in (by omega) (by omega), show 24 * r + (i - 0) = 24 * r + i by omega]
      exact (hG r hr).2 i hi
  · rw [nI_ltI (by omega) (by omega)] at h3; omega
theorem k_push (hs : qSh g) (hr : kR I p M) {a : Nat} (ha : qSta g a) (ha2 : 82 < a) (hG : kG I a regs) (hok : okG p M regs) {st : List Sr} (h33 : I 33 2 = nI st.length) (h24 : st.length < 24) {o : Nat × Nat} (ho : wfO o) (hw : o.1 ≤ 2)
    (k0 : o.1 = 2 ∧ (regs o.2).1 = 0 → ∀ I', kWF I I' → Q (some (.int (nI 0))) g I' J) (k : ¬ (o.1 = 2 ∧ (regs o.2).1 = 0) → ∀ I', kS I' (35 + 2 * st.length) (xP p M regs o.1 o.2).1 (xP p M regs o.1 o.2).2 → I' 33 2 = nI (st.length + 1) → (∀ b, b ≠ 33 → b ≠ 35 + 2 * st.length → b ≠ 35 + 2 * st.length + 1 → I' b = I b) → Q (some (.int (-1))) g I' J) : qC (d + 3) 44 [.ref 33, .int (nI (kop o.1)), .int (nI o.2), .ref a] g I J Q := by
  obtain ⟨w, b⟩ := o
  unfold wfO at ho
  dsimp only at ho hw k0 k
  have hM := hr.2.2.2
  have hp := hr.p2
  have hx : qSer g (35 + 2 * st.length) := hs.stackS h24
  show qC (d + 3) 44 [.ref 33, .int (nI (kop w)), .int (nI b), .ref a] g I J Q
  refine w44 hs ha ⟨fun _ => ⟨st.length, h33, h24, ?_⟩, fun h3 => ?_⟩
  · have hr1 : kR (qw I 33 2 (I 33 2 + nI 1)) p M := hr.frame (zu_a (by omega))
    have e33 : ∀ I' : qI, (∀ b, b ≠ 35 + 2 * st.length → b ≠ 35 + 2 * st.length + 1 → I' b = (qw I 33 2 (I 33 2 + nI 1)) b) → I' 33 2 = nI (st.length + 1) := fun I' h => by rw [h 33 (by omega) (by omega), zu_s, h33, nI_add]
    have hd : w = 0 ∨ w = 1 ∨ w = 2 := by omega
    rcases hd with rfl | rfl | rfl
    · refine ⟨fun _ => ?_, fun h3 => absurd nI_0 h3⟩
      refine k_setNum hs hr1 hx (by omega) (v := (b : Int)) (by omega) (nI_iI b) (fun I1 a1 a2 => ⟨rfl, k (fun h => by cases h.1) I1 a1 (e33 I1 a2) (fun b h1 h2 h3 => by rw [a2 b h2 h3, zu_a h1])⟩)
    · refine ⟨fun h3 => absurd h3 (show ¬ nI (kop 1) = 0 by decide +kernel), fun _ => ⟨fun _ => ?_, fun h3 => absurd rfl h3⟩⟩
      exact k_setX hs hr1 hx (by omega) (fun I1 a1 a2 => ⟨rfl, k (fun h => by cases h.1) I1 a1 (e33 I1 a2) (fun b h1 h2 h3 => by rw [a2 b h2 h3, zu_a h1])⟩)
    · refine ⟨fun h3 => absurd h3 (show ¬ nI (kop 2) = 0 by decide +kernel), fun _ => ⟨fun h3 => absurd h3 (show ¬ nI (kop 2) = nI 1 by decide +kernel), fun _ => ?_⟩⟩
      have hb8 := ho.2.2.1 rfl
      have hGb := hok b hb8
      refine k_load hx ha (by omega) (hG.keep (zu_a (by omega)) (zu_a (by omega))) (fun r hr => by have := hok r hr; omega) hb8 (fun I1 a1 a2 => ⟨rfl, fun h4 => ?_, fun h4 => ?_⟩)
      · rw [a1.1, ← nI_0, nI_eq (by omega) (by omega)] at h4
        exact k0 ⟨rfl, h4⟩ I1 (fun b hb => by rw [a2 b (by omega) (by omega), zu_a (by omega)])
      · rw [a1.1, ← nI_0, nI_eq (by omega) (by omega)] at h4
        exact k (fun h => h4 h.2) I1 a1 (e33 I1 a2) (fun b h1 h2 h3 => by rw [a2 b h2 h3, zu_a h1])
  · rw [h33, nI_ltI (by omega) (by omega)] at h3; omega
theorem k_ofOne (hs : qSh g) (hr : kR I p M) {f : Sr} {s : List Sr} (h33 : I 33 2 = nI (s.length + 1)) (h24 : s.length < 24) (h1 : kS I (35 + 2 * s.length) f.1 f.2) (of : okR p M f) {o : Nat × Nat} (ho : wfO o) (hw : 7 ≤ o.1 ∧ o.1 ≤ 14)
    (k : ∀ I', ((x1o p M o.1 o.2 f).1 = -1 → kS I' (35 + 2 * s.length) (x1o p M o.1 o.2 f).2.1 (x1o p M o.1 o.2 f).2.2) → (∀ b, (b < 13 ∨ (24 ≤ b ∧ b < 35 + 2 * s.length) ∨ 35 + 2 * s.length + 2 ≤ b) → I' b = I b) → Q (some (.int (iI (x1o p M o.1 o.2 f).1))) g I' J) : qC (d + 4) 45 [.ref 33, .int (nI (kop o.1)), .int (nI o.2)] g I J Q := by
  obtain ⟨w, b⟩ := o
  obtain ⟨n, c⟩ := f
  obtain ⟨q1, q2, of⟩ := of
  unfold wfO at ho
  dsimp only at *
  have hM := hr.2.2.2
  have hp := hr.p2
  have hx : qSer g (35 + 2 * s.length) := hs.stackS h24
  have b24 := of.1
  have no : ∀ (i j : Nat) (P : Prop), i < 100 → j < 100 → i ≠ j → nI i = nI j → P := fun i j P hi hj hij h => absurd h (by rw [nI_eq (by omega) (by omega)]; exact hij)
  refine w45 hs ⟨fun _ => ⟨s.length, ?_, h24, ?_⟩, fun h3 => ?_⟩
  · rw [h33, pk_sub (by omega), Nat.add_sub_cancel]
  · have hd : w = 7 ∨ w = 8 ∨ w = 9 ∨ w = 10 ∨ w = 11 ∨ w = 12 ∨ w = 13 ∨ w = 14 := by omega
    rcases hd with rfl | rfl | rfl | rfl | rfl | rfl | rfl | rfl
    · refine ⟨no _ _ _ (by decide) (by omega) (by decide), no _ _ _ (by decide) (by omega) (by decide), no _ _ _ (by decide) (by omega) (by decide), no _ _ _ (by decide) (by omega) (by decide), no _ _ _ (by decide) (by omega) (by decide), no _ _ _ (by decide) (by omega) (by decide), no _ _ _ (by decide) (by omega) (by decide), fun _ => ?_⟩
      refine k_raise hs hx (by omega) hr h1 of q1 q2 (by omega) (fun I' a1 a2 => ⟨rfl, ?_⟩)
      rw [iI_zm1]
      exact k I' (fun _ => a1) (fun b hb => a2 b (by omega) (by omega) (by omega) (by omega))
    · refine ⟨fun _ => ?_, no _ _ _ (by decide) (by omega) (by decide), no _ _ _ (by decide) (by omega) (by decide), no _ _ _ (by decide) (by omega) (by decide), no _ _ _ (by decide) (by omega) (by decide), no _ _ _ (by decide) (by omega) (by decide), no _ _ _ (by decide) (by omega) (by decide), fun h => absurd rfl h.1⟩
      refine k_der hs hx (by omega) hr h1 of (fun h6 => ⟨_, rfl, ?_⟩) (fun h6 I' a1 a2 => ⟨_, rfl, ?_⟩)
      · have e9 : x1o p M 8 b (n, c) = (5, (n, c)) := if_pos h6
        have := k I (fun h7 => by rw [e9] at h7; cases h7) (fun _ _ => rfl)
        rw [e9] at this
        rwa [show iI 5 = nI 5 from (nI_iI 5).symm] at this
      · have e9 : x1o p M 8 b (n, c) = (-1, n - 1, sDer p n c) := if_neg (by dsimp only; omega)
        have := k I' (fun _ => by rw [e9]; exact a1) (fun b hb => a2 b (by omega) (by omega))
        rw [e9] at this
        rwa [← iI_zm1] at this
    · refine ⟨no _ _ _ (by decide) (by omega) (by decide), fun _ => ?_, no _ _ _ (by decide) (by omega) (by decide), no _ _ _ (by decide) (by omega) (by decide), no _ _ _ (by decide) (by omega) (by decide), no _ _ _ (by decide) (by omega) (by decide), no _ _ _ (by decide) (by omega) (by decide), fun h => absurd rfl h.2.1⟩
      exact k_int' hs hx (by omega) hr h1 of q1 (fun I' a1 a2 => ⟨_, rfl, k I' a1 (fun b hb => a2 b (by omega) (by omega))⟩)
    · refine ⟨no _ _ _ (by decide) (by omega) (by decide), no _ _ _ (by decide) (by omega) (by decide), fun _ => ?_, no _ _ _ (by decide) (by omega) (by decide), no _ _ _ (by decide) (by omega) (by decide), no _ _ _ (by decide) (by omega) (by decide), no _ _ _ (by decide) (by omega) (by decide), fun h => absurd rfl h.2.2.1⟩
      exact k_log hs hx (by omega) hr h1 of q1 (fun I' a1 a2 => ⟨_, rfl, k I' a1 (fun b hb => a2 b (by omega) (by omega) (by omega) (by omega) (by omega))⟩)
    · refine ⟨no _ _ _ (by decide) (by omega) (by decide), no _ _ _ (by decide) (by omega) (by decide), no _ _ _ (by decide) (by omega) (by decide), fun _ => ?_, no _ _ _ (by decide) (by omega) (by decide), no _ _ _ (by decide) (by omega) (by decide), no _ _ _ (by decide) (by omega) (by decide), fun h => absurd rfl h.2.2.2.1⟩
      refine k_exp hs hx (by omega) hr h1 of q1 (fun h6 => ⟨_, rfl, ?_⟩) (fun h6 I' a1 a2 => ⟨_, rfl, ?_⟩)
      · have e9 : x1o p M 11 b (n, c) = (2, (n, c)) := if_neg h6
        have := k I (fun h7 => by rw [e9] at h7; cases h7) (fun _ _ => rfl)
        rw [e9] at this
        rwa [show iI 2 = nI 2 from (nI_iI 2).symm] at this
      · have e9 : x1o p M 11 b (n, c) = (-1, min n p, sExp p (min n p) c) := if_pos h6
        have := k I' (fun _ => by rw [e9]; exact a1) (fun b hb => a2 b (by omega) (by omega) (by omega))
        rw [e9] at this
        rwa [← iI_zm1] at this
    · refine ⟨no _ _ _ (by decide) (by omega) (by decide), no _ _ _ (by decide) (by omega) (by decide), no _ _ _ (by decide) (by omega) (by decide), no _ _ _ (by decide) (by omega) (by decide), fun _ => ?_, no _ _ _ (by decide) (by omega) (by decide), no _ _ _ (by decide) (by omega) (by decide), fun h => absurd rfl h.2.2.2.2.1⟩
      exact k_rev hs hx (by omega) hr h1 of q1 q2 (fun I' a1 a2 => ⟨_, rfl, k I' a1 (fun b hb => a2 b (by omega) (by omega) (by omega) (by omega) (by omega) (by omega) (by omega))⟩)
    · refine ⟨no _ _ _ (by decide) (by omega) (by decide), no _ _ _ (by decide) (by omega) (by decide), no _ _ _ (by decide) (by omega) (by decide), no _ _ _ (by decide) (by omega) (by decide), no _ _ _ (by decide) (by omega) (by decide), fun _ => ?_, no _ _ _ (by decide) (by omega) (by decide), fun h => absurd rfl h.2.2.2.2.2.1⟩
      have hb := ho.2.2.2.1 rfl
      exact k_root hs hx (by omega) hr h1 of q1 q2 (by omega) (fun I' a1 a2 => ⟨_, rfl, k I' a1 (fun b hb => a2 b (by omega) (by omega) (by omega) (by omega) (by omega) (by omega) (by omega) (by omega) (by omega) (by omega) (by omega))⟩)
    · refine ⟨no _ _ _ (by decide) (by omega) (by decide), no _ _ _ (by decide) (by omega) (by decide), no _ _ _ (by decide) (by omega) (by decide), no _ _ _ (by decide) (by omega) (by decide), no _ _ _ (by decide) (by omega) (by decide), no _ _ _ (by decide) (by omega) (by decide), fun _ => ?_, fun h => absurd rfl h.2.2.2.2.2.2⟩
      refine k_short hx h1 b24 (m := b) rfl (by omega) (fun I' a1 a2 => ⟨rfl, ?_⟩)
      rw [iI_zm1]
      exact k I' (fun _ => a1) (fun b hb => a2 b (by omega))
  · rw [h33, nI_leI (by omega) (by omega)] at h3; omega
theorem k_ofTwo (hs : qSh g) (hr : kR I p M) {f h : Sr} {s : List Sr} (h33 : I 33 2 = nI (s.length + 2)) (h24 : s.length + 1 < 24) (h1 : kS I (35 + 2 * s.length) f.1 f.2) (h2 : kS I (35 + 2 * (s.length + 1)) h.1 h.2) (of : okR p M f) (oh : okR p M h) {w : Nat} (hw : two w = true) (hw2 : w ≤ 16)
    (k : ∀ I', ((x2o p M w f h).1 = -1 → kS I' (35 + 2 * s.length) (x2o p M w f h).2.1 (x2o p M w f h).2.2) → I' 33 2 = nI (s.length + 1) → (∀ b, (b < 13 ∨ (24 ≤ b ∧ b < 35 + 2 * s.length ∧ b ≠ 33) ∨ 35 + 2 * s.length + 4 ≤ b) → I' b = I b) → Q (some (.int (iI (x2o p M w f h).1))) g I' J) : qC (d + 3) 46 [.ref 33, .int (nI (kop w))] g I J Q := by
  obtain ⟨n, c⟩ := f
  obtain ⟨m, e⟩ := h
  obtain ⟨q1, q2, of⟩ := of
  obtain ⟨q3, q4, oh⟩ := oh
  dsimp only at *
  have hM := hr.2.2.2
  have hp := hr.p2
  have hx1 : qSer g (35 + 2 * s.length) := hs.stackS (by omega)
  have hx2 : qSer g (35 + 2 * (s.length + 1)) := hs.stackS h24
  have no : ∀ (i j : Nat) (P : Prop), i < 100 → j < 100 → i ≠ j → nI i = nI j → P := fun i j P hi hj hij h => absurd h (by rw [nI_eq (by omega) (by omega)]; exact hij)
  have eh : I 33 2 - nI 1 = nI (s.length + 1) := by rw [h33, pk_sub (by omega), show s.length + 2 - 1 = s.length + 1 by omega]
  refine w46 hs ⟨fun _ => ?_, fun h3 => ?_⟩
  · rw [eh]
    generalize hI0 : qw I 33 2 (nI (s.length + 1)) = I0
    have f0 : ∀ b, b ≠ 33 → I0 b = I b := fun b hb => by rw [← hI0]; exact zu_a hb
    have e33 : I0 33 2 = nI (s.length + 1) := by rw [← hI0]; exact zu_s
    have hr1 : kR I0 p M := hr.frame (f0 12 (by omega))
    have y1 : kS I0 (35 + 2 * s.length) n c := h1.frame (f0 _ (by omega)) (f0 _ (by omega))
    have y2 : kS I0 (35 + 2 * (s.length + 1)) m e := h2.frame (f0 _ (by omega)) (f0 _ (by omega))
    have hdj : dj (35 + 2 * s.length) (35 + 2 * (s.length + 1)) := by unfold dj; omega
    have fin : ∀ I' : qI, (∀ b, (b < 13 ∨ (24 ≤ b ∧ b < 35 + 2 * s.length) ∨ 35 + 2 * s.length + 4 ≤ b) → I' b = I0 b) → I' 33 2 = nI (s.length + 1) ∧ (∀ b, (b < 13 ∨ (24 ≤ b ∧ b < 35 + 2 * s.length ∧ b ≠ 33) ∨ 35 + 2 * s.length + 4 ≤ b) → I' b = I b) := fun I' h => ⟨by rw [h 33 (by omega)]; exact e33, fun b hb => by rw [h b (by omega), f0 b (by omega)]⟩
    refine ⟨s.length, by rw [e33, pk_sub (by omega), Nat.add_sub_cancel], by omega, s.length + 1, e33, h24, ?_⟩
    have hd : w = 3 ∨ w = 4 ∨ w = 5 ∨ w = 6 ∨ w = 15 ∨ w = 16 := by
      unfold two at hw
      rw [Bool.or_eq_true, Bool.and_eq_true] at hw
      rcases hw with ⟨a, b⟩ | a
      · have := Nat.le_of_ble_eq_true a
        have := Nat.le_of_ble_eq_true b
        omega
      · have := Nat.le_of_ble_eq_true a
        omega
    rcases hd with rfl | rfl | rfl | rfl | rfl | rfl
    · refine ⟨fun _ => ?_, no _ _ _ (by decide) (by omega) (by decide), no _ _ _ (by decide) (by omega) (by decide), no _ _ _ (by decide) (by omega) (by decide), no _ _ _ (by decide) (by omega) (by decide), fun h => absurd rfl h.1⟩
      refine k_addT (fac := 1) hs hx1 hx2 hr1 (by omega) hdj (by omega) (nI_iI 1) y1 y2 of oh (fun I' a1 a2 => ⟨rfl, ?_⟩)
      obtain ⟨z1, z2⟩ := fin I' (fun b hb => a2 b (by omega) (by omega))
      rw [iI_zm1]
      refine k I' (fun _ => ?_) z1 z2
      have ez : (fun i => c i + 1 * e i) = fun i => c i + e i := by funext i; rw [Int.one_mul]
      rw [ez] at a1
      exact a1
    · refine ⟨no _ _ _ (by decide) (by omega) (by decide), fun _ => ?_, no _ _ _ (by decide) (by omega) (by decide), no _ _ _ (by decide) (by omega) (by decide), no _ _ _ (by decide) (by omega) (by decide), fun h => absurd rfl h.2.1⟩
      refine k_addT (fac := (p : Int) - 1) hs hx1 hx2 hr1 (by omega) hdj (by omega) (by rw [hr1.1, nI_iI, iI_sub]; rfl) y1 y2 of oh (fun I' a1 a2 => ⟨rfl, ?_⟩)
      obtain ⟨z1, z2⟩ := fin I' (fun b hb => a2 b (by omega) (by omega))
      rw [iI_zm1]
      refine k I' (fun _ => ?_) z1 z2
      have ez : zx p (min n m) (fun i => c i + ((p : Int) - 1) * e i) = zx p (min n m) (fun i => c i - e i) := by
        funext i
        by_cases hi : i < min n m
        · rw [zx_lt hi, zx_lt hi]
          apply dvd_emod.mp
          refine ⟨e i, ?_⟩
          rw [Int.sub_mul, Int.one_mul]
          omega
        · rw [zx_ge (by omega), zx_ge (by omega)]
      rw [ez] at a1
      exact a1
    · refine ⟨no _ _ _ (by decide) (by omega) (by decide), no _ _ _ (by decide) (by omega) (by decide), fun _ => ?_, no _ _ _ (by decide) (by omega) (by decide), no _ _ _ (by decide) (by omega) (by decide), fun h => absurd rfl h.2.2.1⟩
      refine k_mul hs hx1 hx2 (by omega) (by omega) hr1 y1 y2 of oh q1 (fun I' a1 a2 => ⟨rfl, ?_⟩)
      obtain ⟨z1, z2⟩ := fin I' (fun b hb => a2 b (by omega) (by omega))
      rw [iI_zm1]
      exact k I' (fun _ => a1) z1 z2
    · refine ⟨no _ _ _ (by decide) (by omega) (by decide), no _ _ _ (by decide) (by omega) (by decide), no _ _ _ (by decide) (by omega) (by decide), fun _ => ?_, no _ _ _ (by decide) (by omega) (by decide), fun h => absurd rfl h.2.2.2.1⟩
      refine k_div hs hx1 hx2 (by omega) hdj hr1 y1 y2 of oh q1 q3 (fun h6 => ⟨_, rfl, ?_⟩) (fun h6 I' a1 a2 => ⟨_, rfl, ?_⟩)
      · obtain ⟨z1, z2⟩ := fin I0 (fun b hb => rfl)
        exact k I0 (fun h7 => absurd h7 h6) z1 z2
      · obtain ⟨z1, z2⟩ := fin I' (fun b hb => a2 b (by omega) (by omega) (by omega) (by omega) (by omega))
        have h7 : (x2o p M 6 (n, c) (m, e)).1 = -1 := h6
        have := k I' (fun _ => a1) z1 z2
        rw [h7] at this
        rwa [← iI_zm1] at this
    · refine ⟨no _ _ _ (by decide) (by omega) (by decide), no _ _ _ (by decide) (by omega) (by decide), no _ _ _ (by decide) (by omega) (by decide), no _ _ _ (by decide) (by omega) (by decide), fun _ => ?_, fun h => absurd rfl h.2.2.2.2⟩
      refine k_cmp hs hx1 hx2 (by omega) hdj hr1 y1 y2 of oh q1 ⟨q3, q4⟩ (fun h6 => ⟨_, rfl, ?_⟩) (fun h6 I' a1 a2 => ⟨_, rfl, ?_⟩)
      · obtain ⟨z1, z2⟩ := fin I0 (fun b hb => rfl)
        have e9 : x2o p M 15 (n, c) (m, e) = (2, (n, c)) := if_neg h6
        have := k I0 (fun h7 => by rw [e9] at h7; cases h7) z1 z2
        rw [e9] at this
        rwa [show iI 2 = nI 2 from (nI_iI 2).symm] at this
      · obtain ⟨z1, z2⟩ := fin I' (fun b hb => a2 b (by omega) (by omega) (by omega) (by omega) (by omega))
        have e9 : x2o p M 15 (n, c) (m, e) = (-1, cLen M n m c e, sCmp p M n m c e) := if_pos h6
        have := k I' (fun _ => by rw [e9]; exact a1) z1 z2
        rw [e9] at this
        rwa [← iI_zm1] at this
    · refine ⟨no _ _ _ (by decide) (by omega) (by decide), no _ _ _ (by decide) (by omega) (by decide), no _ _ _ (by decide) (by omega) (by decide), no _ _ _ (by decide) (by omega) (by decide), no _ _ _ (by decide) (by omega) (by decide), fun _ => ?_⟩
      refine k_match hs hx1 hx2 hr1 (by omega) hdj y1 y2 of oh (fun I' a1 a2 => ⟨rfl, ?_⟩)
      obtain ⟨z1, z2⟩ := fin I' (fun b hb => a2 b (by omega) (by omega))
      rw [iI_zm1]
      exact k I' (fun _ => a1) z1 z2
  · rw [h33, nI_leI (by omega) (by omega)] at h3; omega
end KMACH
