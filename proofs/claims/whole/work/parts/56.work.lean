/-! a STEP worked off: class and reference -/
theorem one_of {w : Nat} (h2 : ¬ w ≤ 2) (hw : w ≤ 16) (ht : two w = false) : 7 ≤ w ∧ w ≤ 14 := by
  unfold two at ht
  simp only [Bool.or_eq_false_iff, Bool.and_eq_false_iff] at ht
  have b1 : ¬ 15 ≤ w := fun h => by rw [Nat.ble_eq_true_of_le h] at ht; cases ht.2
  have b2 : ¬ w ≤ 6 := fun h => by
    rw [Nat.ble_eq_true_of_le h, Nat.ble_eq_true_of_le (show 3 ≤ w by omega)] at ht
    rcases ht.1 with h | h <;> cases h
  omega
theorem two_of {w : Nat} (hw : w ≤ 16) (ht : two w = true) : w = 3 ∨ w = 4 ∨ w = 5 ∨ w = 6 ∨ w = 15 ∨ w = 16 := by
  unfold two at ht
  rw [Bool.or_eq_true, Bool.and_eq_true] at ht
  rcases ht with ⟨a, b⟩ | a
  · have := Nat.le_of_ble_eq_true a
    have := Nat.le_of_ble_eq_true b
    omega
  · have := Nat.le_of_ble_eq_true a
    omega
theorem kop_lt (w : Nat) : kop w ≤ 16 := by unfold kop; split <;> omega
theorem kop_push {w : Nat} : w ≤ 2 → kop w = w := fun h => by
  have hd : w = 0 ∨ w = 1 ∨ w = 2 := by omega
  rcases hd with rfl | rfl | rfl <;> rfl
theorem kop_one {w : Nat} (h : 7 ≤ w ∧ w ≤ 14) : kop w = w - 4 := by
  have hd : w = 7 ∨ w = 8 ∨ w = 9 ∨ w = 10 ∨ w = 11 ∨ w = 12 ∨ w = 13 ∨ w = 14 := by omega
  rcases hd with rfl | rfl | rfl | rfl | rfl | rfl | rfl | rfl <;> rfl
theorem kop_two {w : Nat} (hw : w ≤ 16) (ht : two w = true) : 11 ≤ kop w := by
  rcases two_of hw ht with rfl | rfl | rfl | rfl | rfl | rfl <;> decide
theorem enc_div {o : Nat × Nat} (h : o.2 ≤ 999) : enc o / 1000 = kop o.1 := by unfold enc; omega
theorem enc_mod {o : Nat × Nat} (h : o.2 ≤ 999) : enc o % 1000 = o.2 := by unfold enc; omega
theorem enc_lt {o : Nat × Nat} (h : o.2 ≤ 999) : enc o < 17000 := by unfold enc; have := kop_lt o.1; omega
/-- reasons are small -/
theorem why_bd {p M : Nat} {regs : Nat → Sr} : ∀ (ops : List (Nat × Nat)) (st : List Sr), -1 ≤ (xRun p M regs ops st).1 ∧ (xRun p M regs ops st).1 ≤ 5
  | [], st => by unfold xRun; dsimp only; omega
  | (w, a) :: rest, st => by
    have hU : ∀ f : Sr, -1 ≤ (x1o p M w a f).1 ∧ (x1o p M w a f).1 ≤ 5 := fun f => by
      unfold x1o
      have wi : ∀ n (c : Nat → Int), -1 ≤ whyInt p M n c ∧ whyInt p M n c ≤ 5 := fun n c => by unfold whyInt; split <;> omega
      split
      · dsimp only; omega
      · split <;> (dsimp only; omega)
      · exact wi _ _
      · dsimp only; unfold whyLog; split
        · omega
        · split
          · omega
          · exact wi _ _
      · split <;> (dsimp only; omega)
      · dsimp only; unfold whyRev; split <;> omega
      · dsimp only; unfold whyRoot; split
        · omega
        · split
          · omega
          · split <;> omega
      · dsimp only; omega
    have hB : ∀ f h : Sr, -1 ≤ (x2o p M w f h).1 ∧ (x2o p M w f h).1 ≤ 5 := fun f h => by
      unfold x2o
      split
      · dsimp only; omega
      · dsimp only; omega
      · dsimp only; omega
      · dsimp only; unfold whyDiv; split
        · omega
        · split <;> omega
      · split <;> (dsimp only; omega)
      · dsimp only; omega
    unfold xRun
    by_cases h2 : w ≤ 2
    · rw [if_pos h2]
      by_cases h3 : w = 2 ∧ (regs a).1 = 0
      · rw [if_pos h3]; dsimp only; omega
      · rw [if_neg h3]; exact why_bd rest _
    · rw [if_neg h2]
      cases two w with
      | true =>
        dsimp only
        split
        · split
          · exact why_bd rest _
          · exact hB _ _
        · dsimp only; omega
      | false =>
        dsimp only
        split
        · split
          · exact why_bd rest _
          · exact hU _
        · dsimp only; omega
/-- the operations of a STEP in a code of the class -/
def kOps (I : qI) (x n t off : Nat) (ops : List (Nat × Nat)) : Prop :=
  (∃ S, I x 3 = nI S ∧ t < S ∧ S ≤ 8) ∧ I (x + 1) t = nI off ∧ I (x + 1) (t + 1) = nI (off + ops.length) ∧ (∃ z, I x 4 = nI z ∧ off + ops.length ≤ z ∧ z ≤ n) ∧ n < 100000 ∧ ∀ j o, ops[j]? = some o → I (x + 3) (off + j) = nI (enc o)
section WORK
variable {d : Nat} {g : qG} {I : qI} {J : qJ} {Q : qQ} {p M n m x a : Nat} {regs : Nat → Sr}
theorem k_opAt (hc : qCod g x n) {z i : Nat} {o : Nat × Nat} (hz : I x 4 = nI z) (hi : i < z) (hzn : z ≤ n) (hn : n < 100000) (ho : I (x + 3) i = nI (enc o)) (hw : o.2 ≤ 999) (k : Q (some (.int (nI (kop o.1)))) g I J) : qC d 34 [.ref x, .int (nI i)] g I J Q := by
  have := enc_lt hw
  refine w34 hc ⟨fun h3 => absurd h3 (nI_pos (by omega)), fun _ => ⟨fun _ => ⟨i, rfl, by omega, ?_⟩, fun h3 => ?_⟩⟩
  · rw [ho, pk_div (by omega) (by omega) (by omega), enc_div hw]; exact k
  · rw [hz, nI_ltI (by omega) (by omega)] at h3; omega
theorem k_argAt (hc : qCod g x n) {z i : Nat} {o : Nat × Nat} (hz : I x 4 = nI z) (hi : i < z) (hzn : z ≤ n) (hn : n < 100000) (ho : I (x + 3) i = nI (enc o)) (hw : o.2 ≤ 999) (k : Q (some (.int (nI o.2))) g I J) : qC d 35 [.ref x, .int (nI i)] g I J Q := by
  have := enc_lt hw
  refine w35 hc ⟨fun h3 => absurd h3 (nI_pos (by omega)), fun _ => ⟨fun _ => ⟨i, rfl, by omega, ?_⟩, fun h3 => ?_⟩⟩
  · rw [ho, qrem, pk_rem (by omega) (by omega) (by omega), enc_mod hw]; exact k
  · rw [hz, nI_ltI (by omega) (by omega)] at h3; omega
theorem iI_neg1 {z : Int} (h : -1 ≤ z ∧ z ≤ 5) : iI z = -1 ↔ z = -1 := by rw [iI_zm1, iI_eq (by omega) (by omega)]
theorem k_work_l (hs : qSh g) (hc : qCod g x n) (hx : x = 7 ∨ 120 ≤ x) (hr : kR I p M) (ha : qSta g a) (ha2 : 82 < a) (hG : kG I a regs) (hok : okG p M regs) {t off : Nat} {all : List (Nat × Nat)} (hO : kOps I x n t off all) :
    ∀ (ops : List (Nat × Nat)) (st : List Sr) (i : Nat) (I' : qI) (w5 w6 w7 : Value), all.drop i = ops → i ≤ all.length → (∀ o, o ∈ ops → wfO o) → hgt ops st.length = some 1 → (∀ f, f ∈ st → okR p M f) → kStk I' st → I' 33 2 = nI st.length → st.length ≤ 24 → kWF I I' →
      (∀ I', ((xRun p M regs ops st).1 = -1 → kS I' 35 (xRun p M regs ops st).2.1 (xRun p M regs ops st).2.2) → kWF I I' → Q (some (.int (iI (xRun p M regs ops st).1))) g I' J) →
      qev (d + 5) 43 (27, [.ref 33, .ref x, .int (nI t), .ref a, .int (nI (off + i)), w5, w6, w7], [], g, I', J) Q
  | [], st, i, I', w5, w6, w7, hd, hil, ho, hh, hst, hk, h33, h24, hF, k => by
    obtain ⟨⟨S, s1, s2, s3⟩, o1, o2, ⟨z, z1, z2, z3⟩, hn, o3⟩ := hO
    have hlen : all.length ≤ i := List.drop_eq_nil_iff.mp hd
    have e2 : I' (x + 1) (t + 1) = nI (off + all.length) := by rw [hF (x + 1) (by omega)]; exact o2
    refine w43_27 hs hc ha ⟨t + 1, nI_add t 1, by omega, fun _ => ?_, fun h3 => ?_⟩
    · rw [iI_zm1]
      refine k I' (fun _ => ?_) hF
      unfold hgt at hh
      cases st with
      | nil => cases hh
      | cons f s =>
        have e9 : s.length = 0 := by simpa using hh
        have := hk.1
        rw [e9] at this
        exact this
    · rw [e2, nI_leI (by omega) (by omega)] at h3; omega
  | (w, b) :: rest, st, i, I', w5, w6, w7, hd, hil, ho, hh, hst, hk, h33, h24, hF, k => by
    have hO' := hO
    obtain ⟨⟨S, s1, s2, s3⟩, o1, o2, ⟨z, z1, z2, z3⟩, hn, o3⟩ := hO'
    have hr1 : kR I' p M := hr.frame (hF 12 (by omega))
    have hlen : i < all.length := by
      have := congrArg List.length hd
      rw [List.length_drop, List.length_cons] at this
      omega
    have hrest : all.drop (i + 1) = rest := by
      rw [← List.drop_drop, hd]
      rfl
    have hat : all[i]? = some (w, b) := by
      have := congrArg (fun l => l[0]?) hd
      simpa using this
    have e2 : I' (x + 1) (t + 1) = nI (off + all.length) := by rw [hF (x + 1) (by omega)]; exact o2
    have e3 : I' (x + 3) (off + i) = nI (enc (w, b)) := by rw [hF (x + 3) (by omega)]; exact o3 i _ hat
    have e4 : I' x 4 = nI z := by rw [hF x (by omega)]; exact z1
    have hG' : kG I' a regs := hG.keep (hF _ (by omega)) (hF _ (by omega))
    have hw := ho _ List.mem_cons_self
    have ho' := fun o h => ho o (List.mem_cons_of_mem _ h)
    have hwf := hw
    unfold wfO at hw
    dsimp only at hw
    unfold hgt at hh
    unfold xRun at k
    refine w43_27 hs hc ha ⟨t + 1, nI_add t 1, by omega, fun h3 => ?_, fun _ => k_opAt hc e4 (by omega) z3 hn e3 hw.2.1 ⟨_, rfl, k_argAt hc e4 (by omega) z3 hn e3 hw.2.1 ⟨_, rfl, fun h3 => ⟨fun h4 => ?_, fun h4 => ?_⟩, fun h3 => ?_⟩⟩⟩
    · rw [e2, nI_leI (by omega) (by omega)] at h3; omega
    · -- of two
      have kb := kop_lt w
      dsimp only at h3 h4
      rw [nI_leI (by omega) (by omega)] at h3 h4
      have h2 : ¬ w ≤ 2 := fun h => by rw [kop_push h] at h3; omega
      rw [if_neg h2] at hh k
      cases ht : two w with
      | false => have := one_of h2 hw.1 ht; rw [kop_one this] at h4; omega
      | true =>
        rw [ht] at hh k
        dsimp only at hh k
        cases st with
        | nil => rw [if_neg (by simp)] at hh; cases hh
        | cons h s =>
          cases s with
          | nil => rw [if_neg (by simp)] at hh; cases hh
          | cons f s =>
            simp only [List.length_cons] at hh h33 h24
            rw [if_pos (by omega)] at hh
            dsimp only at k
            have oh := hst h List.mem_cons_self
            have of := hst f (List.mem_cons_of_mem _ List.mem_cons_self)
            have hkh := hk.1
            simp only [List.length_cons] at hkh
            refine k_ofTwo (s := s) hs hr1 h33 (by omega) hk.2.1 hkh of oh ht hw.1 (fun I2 a1 a2 a3 => ⟨_, rfl, fun h5 => ?_, fun h5 => ?_⟩)
            · have hF2 : kWF I I2 := hF.trans (fun b hb => a3 b (by simp only [List.length_cons] at *; omega))
              have hb : -1 ≤ (x2o p M w f h).1 ∧ (x2o p M w f h).1 ≤ 5 := by
                have := why_bd (p := p) (M := M) (regs := regs) [(w, b)] (h :: f :: s)
                unfold xRun at this
                rw [if_neg h2, ht] at this
                dsimp only at this
                by_cases h6 : (x2o p M w f h).1 = -1
                · omega
                · rw [if_neg h6] at this; exact this
              have h6 := (iI_neg1 hb).mp h5
              rw [if_pos h6] at k
              rw [nI_add, Nat.add_assoc]
              refine k_work_l hs hc hx hr ha ha2 hG hok hO rest ((x2o p M w f h).2 :: s) (i + 1) I2 _ _ _ hrest (by omega) ho' (by simpa using hh) (fun q hq => (List.mem_cons.mp hq).elim (fun e => ?_) (fun h => hst q (List.mem_cons_of_mem _ (List.mem_cons_of_mem _ h)))) ⟨a1 h6, hk.2.2.keep (fun b c1 c2 => a3 b (by omega))⟩ (by simpa using a2) (by simp only [List.length_cons]; omega) hF2 k
              rw [e]
              exact x2_ok hr.2.2.1 hr.2.2.2 of oh ht hw.1 h6
            · have h6 : ¬ (x2o p M w f h).1 = -1 := fun e => h5 (by rw [e]; exact iI_zm1.symm)
              rw [if_neg h6] at k
              exact k I2 (fun h7 => absurd h7 h6) (hF.trans (fun b hb => a3 b (by omega)))
    · -- of one
      have kb := kop_lt w
      dsimp only at h3 h4
      rw [nI_leI (by omega) (by omega)] at h3 h4
      have h2 : ¬ w ≤ 2 := fun h => by rw [kop_push h] at h3; omega
      rw [if_neg h2] at hh k
      cases ht : two w with
      | true => have := kop_two hw.1 ht; omega
      | false =>
        have h7 := one_of h2 hw.1 ht
        rw [ht] at hh k
        dsimp only at hh k
        cases st with
        | nil => rw [if_neg (by simp)] at hh; cases hh
        | cons f s =>
          simp only [List.length_cons] at hh h33 h24
          rw [if_pos (by omega)] at hh
          dsimp only at k
          have of := hst f List.mem_cons_self
          refine k_ofOne (s := s) hs hr1 h33 (by omega) hk.1 of hwf h7 (fun I2 a1 a3 => ⟨_, rfl, fun h5 => ?_, fun h5 => ?_⟩)
          · have hF2 : kWF I I2 := hF.trans (fun b hb => a3 b (by omega))
            have hb : -1 ≤ (x1o p M w b f).1 ∧ (x1o p M w b f).1 ≤ 5 := by
              have := why_bd (p := p) (M := M) (regs := regs) [(w, b)] (f :: s)
              unfold xRun at this
              rw [if_neg h2, ht] at this
              dsimp only at this
              by_cases h6 : (x1o p M w b f).1 = -1
              · omega
              · rw [if_neg h6] at this; exact this
            have h6 := (iI_neg1 hb).mp h5
            rw [if_pos h6] at k
            rw [nI_add, Nat.add_assoc]
            refine k_work_l hs hc hx hr ha ha2 hG hok hO rest ((x1o p M w b f).2 :: s) (i + 1) I2 _ _ _ hrest (by omega) ho' (by simpa using hh) (fun q hq => (List.mem_cons.mp hq).elim (fun e => ?_) (fun h => hst q (List.mem_cons_of_mem _ h))) ⟨a1 h6, hk.2.keep (fun b c1 c2 => a3 b (by omega))⟩ (by rw [a3 33 (by omega)]; simpa using h33) (by simp only [List.length_cons]; omega) hF2 k
            rw [e]
            exact x1_ok hr.2.2.1 hr.2.2.2 of hw.2.2.2.2 h7 h6
          · have h6 : ¬ (x1o p M w b f).1 = -1 := fun e => h5 (by rw [e]; exact iI_zm1.symm)
            rw [if_neg h6] at k
            exact k I2 (fun h7 => absurd h7 h6) (hF.trans (fun b hb => a3 b (by omega)))
    · -- a push
      have kb := kop_lt w
      dsimp only at h3
      rw [nI_leI (by omega) (by omega)] at h3
      have h2 : w ≤ 2 := by
        refine Classical.byContradiction (fun h2 => ?_)
        cases ht : two w with
        | true => have := kop_two hw.1 ht; omega
        | false => have := one_of h2 hw.1 ht; rw [kop_one this] at h3; omega
      rw [if_pos h2] at hh k
      by_cases h24' : st.length < 24
      · rw [if_pos h24'] at hh
        refine k_push hs hr1 ha ha2 hG' hok h33 h24' hwf h2 (fun h5 I2 f2 => ⟨_, rfl, fun h6 => ?_, fun _ => ?_⟩) (fun h5 I2 a1 a2 a3 => ⟨_, rfl, fun _ => ?_, fun h6 => absurd rfl h6⟩)
        · exact absurd h6 (by decide +kernel)
        · rw [if_pos h5] at k
          rw [nI_iI]
          exact k I2 (fun h => by cases h) (hF.trans f2)
        · rw [if_neg h5] at k
          rw [nI_add, Nat.add_assoc]
          exact k_work_l hs hc hx hr ha ha2 hG hok hO rest (xP p M regs w b :: st) (i + 1) I2 _ _ _ hrest (by omega) ho' hh (fun q hq => (List.mem_cons.mp hq).elim (fun e => by rw [e]; exact xP_ok hr.2.2.1 hr.2.2.2 hok h2 hw.2.2.1 h5) (fun h => hst q h)) ⟨a1, hk.keep (fun b c1 c2 => a3 b (by intro hb; subst hb; omega) (by omega) (by omega))⟩ (by simpa using a2) (by simp only [List.length_cons]; omega) (hF.trans (fun b hb => a3 b (by omega) (by omega) (by omega))) k
      · rw [if_neg h24'] at hh; cases hh
/-- a STEP on a state of the class -/
theorem k_work (hs : qSh g) (hc : qCod g x n) (hx : x = 7 ∨ 120 ≤ x) (hr : kR I p M) (ha : qSta g a) (ha2 : 82 < a) (hG : kG I a regs) (hok : okG p M regs) {t off : Nat} {ops : List (Nat × Nat)} (hO : kOps I x n t off ops) (hwf : wf ops)
    (k : ∀ I', ((xRun p M regs ops []).1 = -1 → kS I' 35 (xRun p M regs ops []).2.1 (xRun p M regs ops []).2.2) → kWF I I' → Q (some (.int (iI (xRun p M regs ops []).1))) g I' J) : qC (d + 5) 43 [.ref 33, .ref x, .int (nI t), .ref a] g I J Q := by
  have hO' := hO
  obtain ⟨⟨S, s1, s2, s3⟩, o1, o2, ⟨z, z1, z2, z3⟩, hn, o3⟩ := hO'
  have f0 : kWF I (qw I 33 2 (nI 0)) := fun b hb => zu_a (by omega)
  refine w43 hs hc ha ⟨fun h3 => absurd h3 (nI_pos (by omega)), fun _ => ⟨fun _ => ⟨t, rfl, by omega, ?_⟩, fun h3 => ?_⟩⟩
  · rw [zu_a (by omega), o1]
    have h9 := k_work_l (d := d) (Q := Q) (J := J) hs hc hx hr ha ha2 hG hok hO ops [] 0 (qw I 33 2 (nI 0)) qpad qpad qpad rfl (Nat.zero_le _) hwf.1 hwf.2 (fun f hf => by cases hf) trivial zu_s (by decide) f0 k
    exact h9
  · rw [zu_a (by omega), s1, nI_ltI (by omega) (by omega)] at h3; omega
end WORK
