/-! the reference works off a STEP -/
def rStk (I : qI) : List Sr → Prop
  | [] => True
  | f :: s => rS I s.length f.1 f.2 ∧ rStk I s
theorem rStk.keep {I I' : qI} : ∀ {st : List Sr}, rStk I st → (∀ f, f ∈ st → f.1 ≤ 24) → (∀ j, j < 25 * st.length → I' 115 j = I 115 j) → rStk I' st
  | [], _, _, _ => trivial
  | f :: s, h, hb, hf => ⟨⟨by rw [hf _ (by simp only [List.length_cons]; omega)]; exact h.1.1, fun i hi => by rw [hf _ (by have := hb f List.mem_cons_self; simp only [List.length_cons]; omega)]; exact h.1.2 i hi⟩, rStk.keep h.2 (fun q hq => hb q (List.mem_cons_of_mem _ hq)) (fun j hj => hf j (by simp only [List.length_cons]; omega))⟩
/-- the REGISTERS in a row of the reference -/
def rG (I : qI) (a off : Nat) (regs : Nat → Sr) : Prop := ∀ r, r < 8 → I a (off + 25 * r) = nI (regs r).1 ∧ ∀ i, i < (regs r).1 → I a (off + 25 * r + 1 + i) = iI ((regs r).2 i)
theorem rG.keep {I I' : qI} {a off : Nat} {regs : Nat → Sr} (h : rG I a off regs) (h1 : I' a = I a) : rG I' a off regs := fun r hr => ⟨by rw [h1]; exact (h r hr).1, fun i hi => by rw [h1]; exact (h r hr).2 i hi⟩
def rWF (I I' : qI) : Prop := (∀ b, b ≠ 115 → b ≠ 105 → I' b = I b) ∧ ∀ k, k ≠ 25 → I' 105 k = I 105 k
theorem rWF.refl (I : qI) : rWF I I := ⟨fun _ _ _ => rfl, fun _ _ => rfl⟩
theorem rWF.trans {I I1 I2 : qI} (h1 : rWF I I1) (h2 : rWF I1 I2) : rWF I I2 := ⟨fun b a1 a2 => by rw [h2.1 b a1 a2, h1.1 b a1 a2], fun k hk => by rw [h2.2 k hk, h1.2 k hk]⟩
theorem rF.wf {S : Nat → Prop} {I I1 : qI} (h : rF S I I1) : rWF I I1 := ⟨fun b a1 _ => h.1 b a1, fun k _ => by rw [h.1 105 (by omega)]⟩
theorem rWF.high (I : qI) (v : Int32) : rWF I (qw I 105 25 v) := ⟨fun b _ a2 => zu_a a2, fun k hk => zu_k hk⟩
theorem rR.wf {I I' : qI} {p M : Nat} (h : rR I p M) (hf : rWF I I') : rR I' p M := ⟨by rw [hf.2 7 (by omega)]; exact h.1, by rw [hf.2 8 (by omega)]; exact h.2.1, h.2.2⟩
/-- the operations of a STEP in a place of the reference -/
def rOps (I : qI) (pl : Nat) (ops : List (Nat × Nat)) : Prop := I 108 pl = nI ops.length ∧ ops.length ≤ 140 ∧ ∀ j o, ops[j]? = some o → I 109 (280 * pl + 2 * j) = nI o.1 ∧ (o.1 ≠ 1 → I 109 (280 * pl + 2 * j + 1) = nI o.2)
section RWORK
variable {d : Nat} {g : qG} {I : qI} {J : qJ} {Q : qQ} {p M n m x a : Nat} {regs : Nat → Sr}
theorem r_isIn {u v w : Int64} {a b c : Int} (hu : u = iL a) (hv : v = iL b) (hw : w = iL c) (ha : -9223372036854775808 ≤ a ∧ a < 9223372036854775808) (hb : -9223372036854775808 ≤ b ∧ b < 9223372036854775808) (hc : -9223372036854775808 ≤ c ∧ c < 9223372036854775808) (k1 : b ≤ a ∧ a ≤ c → Q (some (.int (nI 1))) g I J) (k0 : ¬ (b ≤ a ∧ a ≤ c) → Q (some (.int (nI 0))) g I J) : qC d 147 [.long u, .long v, .long w] g I J Q := by
  subst hu hv hw
  refine w147 ⟨fun h3 => k0 ?_, fun h3 => ⟨fun h4 => k0 ?_, fun h4 => k1 ?_⟩⟩
  · rw [lg_cmp_lt, iL_lt ha hb] at h3; omega
  · rw [lg_cmp_gt, iL_lt hc ha] at h4; omega
  · rw [lg_cmp_lt, iL_lt ha hb] at h3
    rw [lg_cmp_gt, iL_lt hc ha] at h4
    omega
theorem r_push_l (hs : qSh g) {na : Nat} (hk : g.1 a = some (100, na)) (hna : 200 ≤ na ∧ na < 2 ^ 31) (ha : a ≠ 115) {r h : Nat} (hr : r < 8) (hh : h < 48) {i2 : Int32} (k : ∀ I', rF (fun q => q = h) I I' → (∀ j, j < 25 → I' 115 (25 * h + j) = I a (25 * r + j)) → Q (some (.int (-1))) g I' J) : ∀ f i I', i + f = 25 → rF (fun q => q = h) I I' → (∀ j, j < i → I' 115 (25 * h + j) = I a (25 * r + j)) → qev (d + 1) 209 (76, [.ref 105, .ref a, .int i2, .int (nI r), .int (nI h), .int (nI i)], [], g, I', J) Q
  | 0, i, I', hi, hF, hA => by
    refine w209_76 hs hk hna.2 ⟨fun _ => k I' hF (fun j hj => hA j (by omega)), fun h3 => ?_⟩
    rw [nI_leI (by omega) (by omega)] at h3; omega
  | f + 1, i, I', hi, hF, hA => by
    refine w209_76 hs hk hna.2 ⟨fun h3 => ?_, fun _ => ⟨25 * r + i, by rw [pk_mul, nI_add], by omega, 25 * h + i, by rw [pk_mul, nI_add], by omega, ?_⟩⟩
    · rw [nI_leI (by omega) (by omega)] at h3; omega
    · rw [nI_add]
      refine r_push_l hs hk hna ha hr hh k f (i + 1) _ (by omega) (hF.trans ⟨fun b hb => zu_a hb, fun j hj => zu_k (fun e => hj (by rw [e]; omega))⟩) (fun j hj => ?_)
      by_cases hji : j = i
      · rw [hji, zu_s, hF.1 a ha]
      · rw [zu_k (by omega)]; exact hA j (by omega)
theorem r_push (hs : qSh g) (hr : rR I p M) {na : Nat} (hk : g.1 a = some (100, na)) (hna : 200 ≤ na ∧ na < 2 ^ 31) (ha : a ≠ 115 ∧ a ≠ 105) (hG : rG I a 0 regs) (hok : okG p M regs) {h : Nat} (h25 : I 105 25 = nI h) (hh : h < 40) {o : Nat × Nat} {v2 : Int32} (hv2 : o.1 ≠ 1 → v2 = nI o.2) (ho : wfO o) (hw : o.1 ≤ 2)
    (k0 : o.1 = 2 ∧ (regs o.2).1 = 0 → ∀ I', rWF I I' → Q (some (.int (nI 0))) g I' J) (k : ¬ (o.1 = 2 ∧ (regs o.2).1 = 0) → ∀ I', rS I' h (xP p M regs o.1 o.2).1 (xP p M regs o.1 o.2).2 → I' 105 25 = nI (h + 1) → (∀ j, j < 25 * h → I' 115 j = I 115 j) → rWF I I' → Q (some (.int (-1))) g I' J) : qC (d + 2) 209 [.ref 105, .ref a, .int (nI o.1), .int v2] g I J Q := by
  obtain ⟨w, b⟩ := o
  unfold wfO at ho
  dsimp only at ho hw k0 k hv2
  have hM := hr.2.2.2
  have hp := hr.p2
  have w0 := rWF.high I (I 105 25 + nI 1)
  have e25 : qw I 105 25 (I 105 25 + nI 1) 105 25 = nI (h + 1) := by rw [zu_s, h25, nI_add]
  have e115 : ∀ j, qw I 105 25 (I 105 25 + nI 1) 115 j = I 115 j := fun j => zu_ab (by omega)
  have hr1 := hr.wf w0
  show qC (d + 2) 209 [.ref 105, .ref a, .int (nI w), .int v2] g I J Q
  rw [show I 105 25 = nI h from h25] at w0 e25 e115 hr1
  have hd : w = 0 ∨ w = 1 ∨ w = 2 := by omega
  have low : ∀ I', rF (fun q => q = h) (qw I 105 25 (nI h + nI 1)) I' → ∀ j, j < 25 * h → I' 115 j = I 115 j := fun I' f1 j hj => by rw [f1.2 j (by omega), e115]
  have hi : ∀ I', rF (fun q => q = h) (qw I 105 25 (nI h + nI 1)) I' → I' 105 25 = nI (h + 1) := fun I' f1 => by rw [f1.1 105 (by omega)]; exact e25
  refine w209 hs hk hna.2 ?_
  rw [h25]
  rcases hd with rfl | rfl | rfl
  · refine ⟨fun _ => ?_, fun h3 => absurd nI_0 h3⟩
    rw [hv2 (by omega)]
    refine r_by hs hr1 (z := (b : Int)) (by omega) (by rw [nI_iI, iI_l (by omega)]) ⟨_, rfl, r_num hs hr1 (by omega) rfl (fun I1 a1 f1 => ⟨rfl, k (fun h => by cases h.1) I1 a1 (hi I1 f1) (low I1 f1) (w0.trans f1.wf)⟩)⟩
  · refine ⟨fun h3 => absurd h3 (by decide +kernel), fun _ => ⟨fun _ => ?_, fun h3 => absurd rfl h3⟩⟩
    refine r_num hs hr1 (by omega) (nI_iI 0) (fun I1 a1 f1 => ⟨rfl, r_by hs (hr1.keep f1) (z := 1) (by omega) (lN_iL 1) ⟨_, rfl, r_set hs (by omega) (i := 1) (by omega) rfl ⟨rfl, ?_⟩⟩⟩)
    have f2 := f1.trans (rF_set (r := h) (k := 1) (v := iI (1 % p)) (by omega))
    refine k (fun h => by cases h.1) _ ?_ (hi _ f2) (low _ f2) (w0.trans f2.wf)
    have h9 := rS_set (k := 1) (v := 1 % p) a1
    have ef : (fun i => if i = 1 then (1 : Int) % p else sNumV ((0 : Nat) : Int) i) = sX := by
      funext i
      unfold sX sNumV
      by_cases h1 : i = 1
      · rw [if_pos h1, if_pos h1, Int.emod_eq_of_lt (by omega) (by omega)]
      · rw [if_neg h1, if_neg h1]
        split <;> rfl
    rw [ef] at h9
    exact h9
  · refine ⟨fun h3 => absurd h3 (by decide +kernel), fun _ => ⟨fun h3 => absurd h3 (by decide +kernel), fun _ => ?_⟩⟩
    have hb8 := ho.2.2.1 rfl
    have hGb := hok b hb8
    have hg1 := hG b hb8
    rw [Nat.zero_add] at hg1
    rw [hv2 (by omega)]
    have ea : qw I 105 25 (nI h + nI 1) a = I a := zu_a ha.2
    refine ⟨25 * b, pk_mul 25 b, by omega, fun h4 => ?_, fun h4 => ?_⟩
    · rw [ea, hg1.1, ← nI_0, nI_eq (by omega) (by omega)] at h4
      exact k0 ⟨rfl, h4⟩ _ w0
    · rw [ea, hg1.1, ← nI_0, nI_eq (by omega) (by omega)] at h4
      refine r_push_l hs hk hna ha.1 hb8 (by omega) (fun I1 f1 hA => k (fun h => h4 h.2) I1 ⟨?_, fun i hi => ?_⟩ (hi I1 f1) (low I1 f1) (w0.trans f1.wf)) 25 0 _ (by omega) (rF.refl _ _) (fun j hj => absurd hj (Nat.not_lt_zero j))
      · have := hA 0 (by omega)
        rw [Nat.add_zero, Nat.add_zero, ea] at this
        rw [this]; exact hg1.1
      · have hi' : i < (regs b).1 := hi
        have := hA (1 + i) (by omega)
        rw [← Nat.add_assoc, ← Nat.add_assoc, ea] at this
        rw [this]; exact hg1.2 i hi'
theorem r_work_l (hs : qSh g) (hr : rR I p M) {na : Nat} (hk : g.1 a = some (100, na)) (hna : 200 ≤ na ∧ na < 2 ^ 31) (ha : a ≠ 115 ∧ a ≠ 105) (hG : rG I a 0 regs) (hok : okG p M regs) {pl : Nat} (hpl : pl < 41) {all : List (Nat × Nat)} (hO : rOps I pl all) :
    ∀ (ops : List (Nat × Nat)) (st : List Sr) (i : Nat) (I' : qI) (w5 w6 w7 : Value), all.drop i = ops → i ≤ all.length → (∀ o, o ∈ ops → wfO o) → hgt ops st.length = some 1 → (∀ f, f ∈ st → okR p M f) → rStk I' st → I' 105 25 = nI st.length → st.length ≤ 24 → rWF I I' →
      (∀ I', ((xRun p M regs ops st).1 = -1 → rS I' 0 (xRun p M regs ops st).2.1 (xRun p M regs ops st).2.2) → rWF I I' → Q (some (.int (iI (xRun p M regs ops st).1))) g I' J) →
      qev (d + 6) 210 (10, [.ref 105, .ref a, .int (nI pl), .int (-1), .int (nI i), w5, w6, w7], [], g, I', J) Q
  | [], st, i, I', w5, w6, w7, hd, hil, ho, hh, hst, hkk, h25, h24, hF, k => by
    obtain ⟨o1, o2, o3⟩ := hO
    have hlen : all.length ≤ i := List.drop_eq_nil_iff.mp hd
    have e1 : I' 108 pl = nI all.length := by rw [hF.1 108 (by omega) (by omega)]; exact o1
    refine w210_10 hs hk hna.2 ⟨pl, rfl, hpl, fun _ => ?_, fun h3 => ?_⟩
    · rw [iI_zm1]
      refine k I' (fun _ => ?_) hF
      unfold hgt at hh
      cases st with
      | nil => cases hh
      | cons f s =>
        have e9 : s.length = 0 := by simpa using hh
        have := hkk.1
        rw [e9] at this
        exact this
    · rw [e1, nI_leI (by omega) (by omega)] at h3; omega
  | (w, b) :: rest, st, i, I', w5, w6, w7, hd, hil, ho, hh, hst, hkk, h25, h24, hF, k => by
    have hO' := hO
    obtain ⟨o1, o2, o3⟩ := hO'
    have hr1 : rR I' p M := hr.wf hF
    have hlen : i < all.length := by
      have := congrArg List.length hd
      rw [List.length_drop, List.length_cons] at this
      omega
    have hrest : all.drop (i + 1) = rest := by
      rw [← List.drop_drop, hd]
      rfl
    have hat : all[i]? = some (w, b) := by
      have := congrArg (fun l => l[0]?) hd
      simpa using this
    have e1 : I' 108 pl = nI all.length := by rw [hF.1 108 (by omega) (by omega)]; exact o1
    have e109 : I' 109 = I 109 := hF.1 109 (by omega) (by omega)
    have e2 := o3 i _ hat
    have hw := ho _ List.mem_cons_self
    have ho' := fun o h => ho o (List.mem_cons_of_mem _ h)
    have hwf := hw
    unfold wfO at hw
    dsimp only at hw e2
    have hG' : rG I' a 0 regs := hG.keep (hF.1 a ha.1 ha.2)
    have hbd := why_bd (p := p) (M := M) (regs := regs) ((w, b) :: rest) st
    unfold hgt at hh
    unfold xRun at k hbd
    -- what comes next: with the reason that came
    have stop : ∀ (z : Int) (I2 : qI) (w5 w6 w7 : Value), -1 ≤ z ∧ z ≤ 5 → z ≠ -1 → rWF I I2 → Q (some (.int (iI z))) g I2 J → qev (d + 6) 210 (10, [.ref 105, .ref a, .int (nI pl), .int (iI z), .int (nI i + nI 1), w5, w6, w7], [], g, I2, J) Q := by
      intro z I2 w5 w6 w7 hz hz1 hF2 hq
      rw [nI_add]
      exact w210_10 hs hk hna.2 ⟨pl, rfl, hpl, fun _ => hq, fun _ => ⟨fun h4 => absurd ((iI_neg1 hz).mp h4) hz1, fun _ => hq⟩⟩
    refine w210_10 hs hk hna.2 ⟨pl, rfl, hpl, fun h3 => ?_, fun _ => ⟨fun _ => ⟨280 * pl + 2 * i, by rw [pk_mul, pk_mul, nI_add], by omega, 280 * pl + 2 * i + 1, by rw [pk_mul, pk_mul, nI_add, nI_add], by omega, ?_⟩, fun h3 => absurd rfl h3⟩⟩
    · rw [e1, nI_leI (by omega) (by omega)] at h3; omega
    · rw [e109, e2.1]
      -- of two: one less on the stack
      have goTwo : two w = true → qev (d + 6) 210 (106, [.ref 105, .ref a, .int (nI pl), .int (-1), .int (nI i), .int (nI w), .int (I 109 (280 * pl + 2 * i + 1)), .int (nI 1)], [], g, qw I' 105 25 (I' 105 25 - nI 1), J) Q := by
        intro ht
        have h2 : ¬ w ≤ 2 := by rcases two_of hw.1 ht with h | h | h | h | h | h <;> omega
        rw [if_neg h2, ht] at hh k hbd
        dsimp only at hh k hbd
        cases st with
        | nil => rw [if_neg (by simp)] at hh; cases hh
        | cons h s =>
          cases s with
          | nil => rw [if_neg (by simp)] at hh; cases hh
          | cons f s =>
            simp only [List.length_cons] at hh h25 h24
            rw [if_pos (by omega)] at hh
            dsimp only at k hbd
            have oh := hst h List.mem_cons_self
            have of := hst f (List.mem_cons_of_mem _ List.mem_cons_self)
            have hkh := hkk.1
            simp only [List.length_cons] at hkh
            have w0 := rWF.high I' (I' 105 25 - nI 1)
            have e25 : qw I' 105 25 (I' 105 25 - nI 1) 105 25 = nI (s.length + 1) := by rw [zu_s, h25, pk_sub (by omega), show s.length + 1 + 1 - 1 = s.length + 1 by omega]
            have e115 : ∀ j, qw I' 105 25 (I' 105 25 - nI 1) 115 j = I' 115 j := fun j => zu_ab (by omega)
            generalize qw I' 105 25 (I' 105 25 - nI 1) = I0 at *
            have y1 : rS I0 s.length f.1 f.2 := ⟨by rw [e115]; exact hkk.2.1.1, fun i hi => by rw [e115]; exact hkk.2.1.2 i hi⟩
            have y2 : rS I0 (s.length + 1) h.1 h.2 := ⟨by rw [e115]; exact hkh.1, fun i hi => by rw [e115]; exact hkh.2 i hi⟩
            refine w210_106 hs hk hna.2 ⟨fun _ => ⟨fun h4 => absurd h4 (by decide +kernel), fun _ => ?_⟩, fun h3 => ?_⟩
            · rw [e25, pk_sub (by omega), Nat.add_sub_cancel]
              refine r_two hs (hr1.wf w0) (by omega) y1 y2 of oh (by omega) (fun I2 a1 f2 => ⟨_, rfl, ?_⟩)
              have hF2 : rWF I I2 := hF.trans (w0.trans f2.wf)
              by_cases h6 : (x2o p M w f h).1 = -1
              · rw [if_pos h6] at k
                rw [h6, nI_add, ← iI_zm1]
                refine r_work_l hs hr hk hna ha hG hok hpl hO rest ((x2o p M w f h).2 :: s) (i + 1) I2 _ _ _ hrest (by omega) ho' (by simpa using hh) (fun q hq => (List.mem_cons.mp hq).elim (fun e => by rw [e]; exact x2_ok hr.2.2.1 hr.2.2.2 of oh ht hw.1 h6) (fun h => hst q (List.mem_cons_of_mem _ (List.mem_cons_of_mem _ h)))) ⟨a1 h6, hkk.2.2.keep (fun q hq => (hst q (List.mem_cons_of_mem _ (List.mem_cons_of_mem _ hq))).2.2.1) (fun j hj => by rw [f2.2 j (by show ¬ s.length ≤ j / 25; omega), e115])⟩ (by rw [f2.1 105 (by omega)]; simpa using e25) (by simp only [List.length_cons]; omega) hF2 k
              · rw [if_neg h6] at k hbd
                exact stop _ I2 _ _ _ hbd h6 hF2 (k I2 (fun h7 => absurd h7 h6) hF2)
            · rw [nI_ltI (by omega) (by omega)] at h3; omega
      refine r_isIn (a := (w : Int)) (b := 3) (c := 6) (by rw [nI_iI, iI_l (by omega)]) (lN_iL 3) (lN_iL 6) (by omega) (by omega) (by omega) (fun h5 => ⟨_, rfl, fun h6 => absurd h6 (by decide +kernel), fun _ => goTwo ?_⟩) (fun h5 => ⟨_, rfl, fun _ => ⟨fun h6 => ?_, fun h6 => goTwo ?_⟩, fun h6 => absurd nI_0 h6⟩)
      · unfold two
        rw [Nat.ble_eq_true_of_le (show 3 ≤ w by omega), Nat.ble_eq_true_of_le (show w ≤ 6 by omega)]
        rfl
      · rw [nI_ltI (by omega) (by omega)] at h6
        have ht : two w = false := by
          cases ht : two w with
          | false => rfl
          | true => rcases two_of hw.1 ht with h | h | h | h | h | h <;> omega
        refine w210_106 hs hk hna.2 ⟨fun h7 => ⟨fun _ => ?_, fun h8 => absurd nI_0 h8⟩, fun h7 => ?_⟩
        · -- of one
          rw [nI_ltI (by omega) (by omega)] at h7
          have h2 : ¬ w ≤ 2 := by omega
          rw [if_neg h2, ht] at hh k hbd
          dsimp only at hh k hbd
          have h7 := one_of h2 hw.1 ht
          cases st with
          | nil => rw [if_neg (by simp)] at hh; cases hh
          | cons f s =>
            simp only [List.length_cons] at hh h25 h24
            rw [if_pos (by omega)] at hh
            dsimp only at k hbd
            have of := hst f List.mem_cons_self
            rw [h25, pk_sub (by omega), Nat.add_sub_cancel, e2.2 (by omega)]
            refine r_one hs hr1 (by omega) hkk.1 of (by omega) (by omega) (fun h => by have := hw.2.2.2.1 h; omega) (fun I2 a1 f2 => ⟨_, rfl, ?_⟩)
            have hF2 : rWF I I2 := hF.trans f2.wf
            by_cases h6 : (x1o p M w b f).1 = -1
            · rw [if_pos h6] at k
              rw [h6, nI_add, ← iI_zm1]
              refine r_work_l hs hr hk hna ha hG hok hpl hO rest ((x1o p M w b f).2 :: s) (i + 1) I2 _ _ _ hrest (by omega) ho' (by simpa using hh) (fun q hq => (List.mem_cons.mp hq).elim (fun e => by rw [e]; exact x1_ok hr.2.2.1 hr.2.2.2 of hw.2.2.2.2 h7 h6) (fun h => hst q (List.mem_cons_of_mem _ h))) ⟨a1 h6, hkk.2.keep (fun q hq => (hst q (List.mem_cons_of_mem _ hq)).2.2.1) (fun j hj => f2.2 j (by show ¬ s.length ≤ j / 25; omega))⟩ (by rw [f2.1 105 (by omega)]; simpa using h25) (by simp only [List.length_cons]; omega) hF2 k
            · rw [if_neg h6] at k hbd
              exact stop _ I2 _ _ _ hbd h6 hF2 (k I2 (fun h7 => absurd h7 h6) hF2)
        · -- a push
          rw [nI_ltI (by omega) (by omega)] at h7
          have h2 : w ≤ 2 := by omega
          rw [if_pos h2] at hh k hbd
          by_cases h24' : st.length < 24
          · rw [if_pos h24'] at hh
            refine r_push hs hr1 hk hna ha hG' hok h25 (by omega) (o := (w, b)) e2.2 hwf h2 (fun h5 I2 f2 => ⟨_, rfl, ?_⟩) (fun h5 I2 a1 a2 a3 f2 => ⟨_, rfl, ?_⟩)
            · rw [if_pos h5] at k
              have hF2 := hF.trans f2
              rw [nI_iI 0]
              exact stop 0 I2 _ _ _ (by omega) (by omega) hF2 (k I2 (fun h => by cases h) hF2)
            · rw [if_neg h5] at k
              rw [nI_add]
              exact r_work_l hs hr hk hna ha hG hok hpl hO rest (xP p M regs w b :: st) (i + 1) I2 _ _ _ hrest (by omega) ho' hh (fun q hq => (List.mem_cons.mp hq).elim (fun e => by rw [e]; exact xP_ok hr.2.2.1 hr.2.2.2 hok h2 hw.2.2.1 h5) (fun h => hst q h)) ⟨a1, hkk.keep (fun q hq => (hst q hq).2.2.1) a3⟩ (by simpa using a2) (by simp only [List.length_cons]; omega) (hF.trans f2) k
          · rw [if_neg h24'] at hh; cases hh
      · rw [nI_ltI (by omega) (by omega)] at h6
        unfold two
        rw [Nat.ble_eq_true_of_le (show 15 ≤ w by omega), Bool.or_true]
theorem r_work (hs : qSh g) (hr : rR I p M) {na : Nat} (hk : g.1 a = some (100, na)) (hna : 200 ≤ na ∧ na < 2 ^ 31) (ha : a ≠ 115 ∧ a ≠ 105) (hG : rG I a 0 regs) (hok : okG p M regs) {pl : Nat} (hpl : pl < 41) {ops : List (Nat × Nat)} (hO : rOps I pl ops) (hwf : wf ops)
    (k : ∀ I', ((xRun p M regs ops []).1 = -1 → rS I' 0 (xRun p M regs ops []).2.1 (xRun p M regs ops []).2.2) → rWF I I' → Q (some (.int (iI (xRun p M regs ops []).1))) g I' J) : qC (d + 6) 210 [.ref 105, .ref a, .int (nI pl)] g I J Q :=
  w210 hs hk hna.2 (r_work_l hs hr hk hna ha hG hok hpl hO ops [] 0 _ qpad qpad qpad rfl (Nat.zero_le _) hwf.1 hwf.2 (fun f hf => by cases hf) trivial zu_s (by decide) (rWF.high I (nI 0)) k)
end RWORK
