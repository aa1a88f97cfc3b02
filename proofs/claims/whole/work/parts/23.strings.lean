/-! String.length and String.charAt of the three constants, by the JDK's own code -/
def RJ3 : String := "jdk/internal/util/Preconditions"
abbrev cJ3_checkIndex_8e157 : ByteArray := prog_29_method_11_code
def yJ3_checkIndex_8e157 : MethodName := ⟨RJ3, "checkIndex", "(IILjava/util/function/BiFunction;)I"⟩
section QJS
variable {p : Program} {l : Launch} {e : Env} {R : Room} {s : State} {mI : MethodId} {args : Array Value} {below : List Frame} {meth : Method} {c : Code} {H : Heap} {locs : List Loc} {cells slots : Nat} {Qf : State → Prop} {X : qX}
theorem qfinS {pc : Nat} {ls : Array Slot} {st0 rest : List Value} {v : Option Value} (hr : va_Run p l e R s mI args below meth c H locs cells slots 0 0 (F0 mI pc ls st0) rest (fun st oc t => oc = .returned v ∧ t.heap = st.heap) (fun _ => False)) (k : W p l e R s mI args below meth c H locs cells slots Qf (F0 mI (pc + 3) ls (v.toList ++ rest))) : W p l e R s mI args below meth c H locs cells slots Qf (F0 mI pc ls st0) := by
  intro T hT Y
  obtain ⟨v1, st₀, t9, T', L, h0, Y', hLL, e1, e2, ⟨q1, q2⟩, go⟩ := hr T hT Y
  cases q1
  have hT' : T'.heap = H := by rw [e1, q2, h0]
  have hL : L = [] := by
    cases L with
    | nil => rfl
    | cons z L => exact absurd (hLL z List.mem_cons_self) id
  subst hL
  rw [List.append_nil, Nat.add_zero, Nat.add_zero] at Y'
  obtain ⟨t2, a1, b1⟩ := k T' hT' Y'
  exact ⟨t2, go t2 a1, b1⟩
abbrev qjQ (v : Option Value) : Array Value → State → Outcome → State → Prop := fun _ st oc t => oc = .returned v ∧ t.heap = st.heap
theorem qjS (h : qSM X s) (hH : H = s.heap) : ∀ U : State, U.heap = H → s.WarmedH U.vm → qSM X U := by
  intro U hU hW
  refine ⟨fun q hq => by rw [hU, hH]; exact h.1 q hq, by rw [hU, hH]; exact h.2.1, h.2.2.warm hW⟩
theorem qjk (h : qSM X s) : ∀ a : Nat, a < (xH X).size → ¬ qAA X a → s.heap[a]? = (xH X)[a]? := fun a _ h2 => h.1 a (Nat.not_le.mp h2)
end QJS
theorem dz3_0 : decode cJ3_checkIndex_8e157 0 = .ok (.iload_n 0, 1) := by decide +kernel
theorem dz3_1 : decode cJ3_checkIndex_8e157 1 = .ok (.ifCond .lt 8, 3) := by decide +kernel
theorem dz3_4 : decode cJ3_checkIndex_8e157 4 = .ok (.iload_n 0, 1) := by decide +kernel
theorem dz3_5 : decode cJ3_checkIndex_8e157 5 = .ok (.iload_n 1, 1) := by decide +kernel
theorem dz3_6 : decode cJ3_checkIndex_8e157 6 = .ok (.if_icmp .lt 10, 3) := by decide +kernel
theorem dz3_16 : decode cJ3_checkIndex_8e157 16 = .ok (.iload_n 0, 1) := by decide +kernel
theorem dz3_17 : decode cJ3_checkIndex_8e157 17 = .ok (.ireturn, 1) := by decide +kernel
theorem dzc_0 : decode cJ0_checkIndex_df160 0 = .ok (.iload_n 0, 1) := by decide +kernel
theorem dzc_1 : decode cJ0_checkIndex_df160 1 = .ok (.iload_n 1, 1) := by decide +kernel
theorem dzc_2 : decode cJ0_checkIndex_df160 2 = .ok (.getstatic 1053, 3) := by decide +kernel
theorem dzc_5 : decode cJ0_checkIndex_df160 5 = .ok (.invokestatic 1059, 3) := by decide +kernel
theorem dzc_8 : decode cJ0_checkIndex_df160 8 = .ok (.pop, 1) := by decide +kernel
theorem dzc_9 : decode cJ0_checkIndex_df160 9 = .ok (.return_, 1) := by decide +kernel
theorem dz1_0 : decode cJ1_charAt_3b067 0 = .ok (.iload_n 1, 1) := by decide +kernel
theorem dz1_1 : decode cJ1_charAt_3b067 1 = .ok (.aload_n 0, 1) := by decide +kernel
theorem dz1_2 : decode cJ1_charAt_3b067 2 = .ok (.arraylength, 1) := by decide +kernel
theorem dz1_3 : decode cJ1_charAt_3b067 3 = .ok (.invokestatic 9, 3) := by decide +kernel
theorem dz1_6 : decode cJ1_charAt_3b067 6 = .ok (.aload_n 0, 1) := by decide +kernel
theorem dz1_7 : decode cJ1_charAt_3b067 7 = .ok (.iload_n 1, 1) := by decide +kernel
theorem dz1_8 : decode cJ1_charAt_3b067 8 = .ok (.baload, 1) := by decide +kernel
theorem dz1_9 : decode cJ1_charAt_3b067 9 = .ok (.sipush 255, 3) := by decide +kernel
theorem dz1_12 : decode cJ1_charAt_3b067 12 = .ok (.iand, 1) := by decide +kernel
theorem dz1_13 : decode cJ1_charAt_3b067 13 = .ok (.i2c, 1) := by decide +kernel
theorem dz1_14 : decode cJ1_charAt_3b067 14 = .ok (.ireturn, 1) := by decide +kernel
theorem dzk_0 : decode cJ0_coder_7d493 0 = .ok (.getstatic 38, 3) := by decide +kernel
theorem dzk_3 : decode cJ0_coder_7d493 3 = .ok (.ifCond .eq 10, 3) := by decide +kernel
theorem dzk_6 : decode cJ0_coder_7d493 6 = .ok (.aload_n 0, 1) := by decide +kernel
theorem dzk_7 : decode cJ0_coder_7d493 7 = .ok (.getfield 15, 3) := by decide +kernel
theorem dzk_10 : decode cJ0_coder_7d493 10 = .ok (.goto 4, 3) := by decide +kernel
theorem dzk_14 : decode cJ0_coder_7d493 14 = .ok (.ireturn, 1) := by decide +kernel
theorem dzi_0 : decode cJ0_isLatin1_aae02 0 = .ok (.getstatic 38, 3) := by decide +kernel
theorem dzi_3 : decode cJ0_isLatin1_aae02 3 = .ok (.ifCond .eq 14, 3) := by decide +kernel
theorem dzi_6 : decode cJ0_isLatin1_aae02 6 = .ok (.aload_n 0, 1) := by decide +kernel
theorem dzi_7 : decode cJ0_isLatin1_aae02 7 = .ok (.getfield 15, 3) := by decide +kernel
theorem dzi_10 : decode cJ0_isLatin1_aae02 10 = .ok (.ifCond .ne 7, 3) := by decide +kernel
theorem dzi_13 : decode cJ0_isLatin1_aae02 13 = .ok (.iconst 1, 1) := by decide +kernel
theorem dzi_14 : decode cJ0_isLatin1_aae02 14 = .ok (.goto 4, 3) := by decide +kernel
theorem dzi_18 : decode cJ0_isLatin1_aae02 18 = .ok (.ireturn, 1) := by decide +kernel
theorem dzl_0 : decode cJ0_length_8abf5 0 = .ok (.aload_n 0, 1) := by decide +kernel
theorem dzl_1 : decode cJ0_length_8abf5 1 = .ok (.getfield 9, 3) := by decide +kernel
theorem dzl_4 : decode cJ0_length_8abf5 4 = .ok (.arraylength, 1) := by decide +kernel
theorem dzl_5 : decode cJ0_length_8abf5 5 = .ok (.aload_n 0, 1) := by decide +kernel
theorem dzl_6 : decode cJ0_length_8abf5 6 = .ok (.invokevirtual 335, 3) := by decide +kernel
theorem dzl_9 : decode cJ0_length_8abf5 9 = .ok (.ishr, 1) := by decide +kernel
theorem dzl_10 : decode cJ0_length_8abf5 10 = .ok (.ireturn, 1) := by decide +kernel
theorem dza_0 : decode cJ0_charAt_5068e 0 = .ok (.aload_n 0, 1) := by decide +kernel
theorem dza_1 : decode cJ0_charAt_5068e 1 = .ok (.invokevirtual 492, 3) := by decide +kernel
theorem dza_4 : decode cJ0_charAt_5068e 4 = .ok (.ifCond .eq 12, 3) := by decide +kernel
theorem dza_7 : decode cJ0_charAt_5068e 7 = .ok (.aload_n 0, 1) := by decide +kernel
theorem dza_8 : decode cJ0_charAt_5068e 8 = .ok (.getfield 9, 3) := by decide +kernel
theorem dza_11 : decode cJ0_charAt_5068e 11 = .ok (.iload_n 1, 1) := by decide +kernel
theorem dza_12 : decode cJ0_charAt_5068e 12 = .ok (.invokestatic 495, 3) := by decide +kernel
theorem dza_15 : decode cJ0_charAt_5068e 15 = .ok (.ireturn, 1) := by decide +kernel
section QJM
variable {l : Launch} {X : qX}
set_option maxRecDepth 100000 in
theorem mz_check3 {i : Int32} {n : Nat} {fv : Value} (hi : 0 ≤ i.toInt ∧ i.toInt < n) (hn : n < 2 ^ 31) (hf : fv = .null ∨ ∃ t, fv = .ref t) : Met l yJ3_checkIndex_8e157 (Cond.code yJ3_checkIndex_8e157 cJ3_checkIndex_8e157 3 (some .int) :: qTs) { frames := 0, cells := 0, slots := 0, locals := 0 } (va_Pc [.int i, .int (nI n), fv] (qSM X)) (qjQ (some (.int i))) 0 0 (fun _ => False) := by
  refine Met.ofW (cc := cJ3_checkIndex_8e157) (maxL := 3) (ret := some .int) (by decide) rfl ?_
  intro p e s mI args below meth c s₁ B hml hv
  obtain ⟨rfl, hM⟩ := hv
  have hx := B.exec
  have hb := B.bytes
  have hr := B.returns
  have hlocks := B.notSynchronized
  have hcat : (lg_sl [Value.int i, .int (nI n), fv]).length ≤ 3 := by
    rcases hf with rfl | ⟨t, rfl⟩ <;> exact Nat.le_of_ble_eq_true rfl
  have hl := lv_entry ([.int i, .int (nI n), fv]) (n := 3) hcat
  rw [lg_entry_eq]
  generalize (lg_sl ([.int i, .int (nI n), fv]) ++ List.replicate (3 - (lg_sl ([.int i, .int (nI n), fv])).length) Slot.unset).toArray = ls at hl ⊢
  have hl0 : ls[0]? = some (.val (.int i)) := lv_at hl 0 rfl
  have hl1 : ls[1]? = some (.val (.int (nI n))) := lv_at hl 1 rfl
  refine lv_iload_n hx hb dz3_0 rfl hl0 ?_
  refine lv_if_lt (tgt := 9) hx hb dz3_1 (by decide) (fun hc => absurd hc (qnn hi.1).1) (fun _ => ?_)
  refine lv_iload_n hx hb dz3_4 rfl hl0 ?_
  refine lv_iload_n hx hb dz3_5 rfl hl1 ?_
  refine lv_icmp_lt (tgt := 16) hx hb dz3_6 (by decide) (fun _ => ?_) (fun hc => absurd (Int32.lt_iff_toInt_lt.mpr (by rw [nI_toInt hn]; exact hi.2)) hc)
  refine lv_iload_n hx hb dz3_16 rfl hl0 ?_
  exact W.iret hx hb hr (fun t ht _ => ⟨rfl, ht⟩) (fun q hq => by cases hq) dz3_17
set_option maxRecDepth 100000 in
theorem mz_checkS {i : Int32} {n : Nat} (hi : 0 ≤ i.toInt ∧ i.toInt < n) (hn : n < 2 ^ 31) : Met l yJ0_checkIndex_df160 (Cond.code yJ0_checkIndex_df160 cJ0_checkIndex_df160 2 none :: qTs) { frames := 1, cells := 0, slots := 0, locals := 30 } (va_Pc [.int i, .int (nI n)] (qSM X)) (qjQ none) 0 0 (fun _ => False) := by
  refine Met.ofW (cc := cJ0_checkIndex_df160) (maxL := 2) (ret := none) (by decide) rfl ?_
  intro p e s mI args below meth c s₁ B hml hv
  obtain ⟨rfl, hM⟩ := hv
  have hx := B.exec
  have hb := B.bytes
  have hr := B.returns
  have hlocks := B.notSynchronized
  have hts0 := atoms_spec (ws := Cond.code yJ0_checkIndex_df160 cJ0_checkIndex_df160 2 none :: qTs) B.pre
  have hts : ∀ w ∈ qTs, w.before _ s = true := fun w hw => hts0 w (List.mem_cons_of_mem _ hw)
  have hown : s.vm.findClass RJ0 = some mI.cls := findClass_of_methodNamed B.named
  have hl := lv_entry ([.int i, .int (nI n)]) (n := 2) (Nat.le_of_ble_eq_true rfl)
  rw [lg_entry_eq]
  generalize (lg_sl ([.int i, .int (nI n)]) ++ List.replicate (2 - (lg_sl ([.int i, .int (nI n)])).length) Slot.unset).toArray = ls at hl ⊢
  have hl : lv_has ls 2 [(0, .int i), (1, .int (nI n))] := hl
  refine lv_iload_n hx hb dzc_0 rfl (lv_at hl 0 rfl) ?_
  refine lv_iload_n hx hb dzc_1 rfl (lv_at hl 1 rfl) ?_
  have hZ := hM.2.2.2.2.2.2.1.2.2.2.2.2
  have main : ∀ fv : Value, (fv = .null ∨ ∃ t, fv = .ref t) → va_Z "jdk/internal/util/Preconditions" "SIOOBE_FORMATTER" "Ljava/util/function/BiFunction;" fv (qAA X) s (xH X) → W p l e (headSpec (Cond.code yJ0_checkIndex_df160 cJ0_checkIndex_df160 2 none :: qTs) { frames := 1, cells := 0, slots := 0, locals := 30 }).room s mI [Value.int i, Value.int (nI n)].toArray below meth c s.heap [] 0 0 (MQ below (qjQ none) [Value.int i, Value.int (nI n)].toArray s 0 0 (fun _ => False)) (F0 mI (0 + 1 + 1) ls [Value.int (nI n), Value.int i]) := by
    intro fv hfv hZv
    refine va_gets hx hb (hZv.kept (qjk hM)) (va_S.rf (A := qAA X)) hown (hts (.fieldLink RJ0 1053 "jdk/internal/util/Preconditions" "SIOOBE_FORMATTER" "Ljava/util/function/BiFunction;") (qTs_mem (i := 1258) rfl rfl)) (fun _ h9 => h9) dzc_2 ?_
    refine qfinS (v := some (.int i)) (va_runS (As := [.int i, .int (nI n), fv]) (rest := []) (n := 3) ⟨hx, hb, hml, hown, hts⟩ (mz_check3 hi hn hfv) ⟨callB_of 3 hts (qGoodIn (fun w hw => (List.mem_cons.mp hw).elim (fun e9 => by rw [e9]; exact qTs_mem (i := 1262) rfl rfl) id)) rfl rfl rfl (hts (.initialized RJ3) (qTs_mem (i := 135) rfl rfl)) (hts (.methodLink RJ0 1059 yJ3_checkIndex_8e157) (qTs_mem (i := 1260) rfl rfl)) (by decide +kernel) ⟨Nat.le_of_ble_eq_true rfl, Nat.le_of_ble_eq_true rfl⟩, hts (.static yJ3_checkIndex_8e157) (qTs_mem (i := 1261) rfl rfl)⟩ ⟨qSM_blind, fun U hU hW => ⟨rfl, qjS hM rfl U hU hW⟩⟩ rfl rfl hl.1 rfl (Nat.le_of_ble_eq_true rfl) dzc_5 ⟨Nat.le_refl _, Nat.le_refl _⟩) ?_
    refine lv_pop hx hb dzc_8 rfl ?_
    exact W.vret hx hb hr (fun t ht _ => ⟨rfl, ht⟩) (fun q hq => by cases hq) dzc_9
  rcases hZ with hZ | ⟨t, hZ⟩
  · exact main .null (Or.inl rfl) hZ
  · exact main (.ref t) (Or.inr ⟨t, rfl⟩) hZ
theorem qbyt_ok : ∀ o, o < 4 → 1 ≤ o → (qstr o).length = qlens.getD (o - 1) 0 ∧ (qstr o).length < 2 ^ 31 ∧ ∀ j, j < (qstr o).length → (((qbyts.getD (o - 1) []).getD j 0) &&& (Int16.ofInt 255).toInt32).toUInt32 % 65536 = (Int32.ofNat ((qstr o).getD j 0)).toUInt32 ∧ narrow .char (.int (Int32.ofNat ((qstr o).getD j 0))) = .int (Int32.ofNat ((qstr o).getD j 0)) := by decide +kernel
set_option maxRecDepth 100000 in
theorem mz_charL {o : Nat} {i : Int32} {ad : Nat} (h1 : 1 ≤ o) (h3 : o ≤ 3) (hi : qix i (qstr o).length = true) : Met l yJ1_charAt_3b067 (Cond.code yJ1_charAt_3b067 cJ1_charAt_3b067 2 (some .char) :: qTs) { frames := 2, cells := 0, slots := 0, locals := 60 } (va_Pc [.ref ad, .int i] (fun U => qSM X U ∧ va_T .byte ad (qlens.getD (o - 1) 0) (fun j => .int ((qbyts.getD (o - 1) []).getD j 0)) (qAA X) U (xH X))) (qjQ (some (.int (Int32.ofNat ((qstr o).getD i.toNatClampNeg 0))))) 0 0 (fun _ => False) := by
  obtain ⟨b1, b2, b3⟩ := qbyt_ok o (by omega) h1
  have hix := of_decide_eq_true hi
  obtain ⟨n1, n2⟩ := qnn hix.1
  refine Met.ofW (cc := cJ1_charAt_3b067) (maxL := 2) (ret := some .char) (by decide) rfl ?_
  intro p e s mI args below meth c s₁ B hml hv
  obtain ⟨rfl, hM, hT⟩ := hv
  have hx := B.exec
  have hb := B.bytes
  have hr := B.returns
  have hlocks := B.notSynchronized
  have hts0 := atoms_spec (ws := Cond.code yJ1_charAt_3b067 cJ1_charAt_3b067 2 (some .char) :: qTs) B.pre
  have hts : ∀ w ∈ qTs, w.before _ s = true := fun w hw => hts0 w (List.mem_cons_of_mem _ hw)
  have hown : s.vm.findClass RJ1 = some mI.cls := findClass_of_methodNamed B.named
  have hl := lv_entry ([.ref ad, .int i]) (n := 2) (Nat.le_of_ble_eq_true rfl)
  rw [lg_entry_eq]
  generalize (lg_sl ([.ref ad, .int i]) ++ List.replicate (2 - (lg_sl ([.ref ad, .int i])).length) Slot.unset).toArray = ls at hl ⊢
  have hl : lv_has ls 2 [(0, .ref ad), (1, .int i)] := hl
  have hT9 := hT.kept (qjk hM)
  refine lv_iload_n hx hb dz1_0 rfl (lv_at hl 1 rfl) ?_
  refine lv_aload_n hx hb dz1_1 rfl (lv_at hl 0 rfl) ?_
  have hlen : qlens.getD (o - 1) 0 = (qstr o).length := b1.symm
  refine va_tlen (v := nI (qstr o).length) hx hb hT9 (va_S.rf (A := qAA X)) (by rw [hlen]; rfl) dz1_2 ?_
  refine qfinS (v := none) (va_runS (As := [.int i, .int (nI (qstr o).length)]) (rest := []) (n := 2) ⟨hx, hb, hml, hown, hts⟩ (mz_checkS hix b2) ⟨callB_of 2 hts (qGoodIn (fun w hw => (List.mem_cons.mp hw).elim (fun e9 => by rw [e9]; exact qTs_mem (i := 1257) rfl rfl) id)) rfl rfl rfl (hts (.initialized RJ0) (qTs_mem (i := 133) rfl rfl)) (hts (.methodLink RJ1 9 yJ0_checkIndex_df160) (qTs_mem (i := 1255) rfl rfl)) (by decide +kernel) ⟨Nat.le_of_ble_eq_true rfl, Nat.le_of_ble_eq_true rfl⟩, hts (.static yJ0_checkIndex_df160) (qTs_mem (i := 1256) rfl rfl)⟩ ⟨qSM_blind, fun U hU hW => ⟨rfl, qjS hM rfl U hU hW⟩⟩ rfl rfl hl.1 rfl (Nat.le_of_ble_eq_true rfl) dz1_3 ⟨Nat.le_refl _, Nat.le_refl _⟩) ?_
  refine lv_aload_n hx hb dz1_6 rfl (lv_at hl 0 rfl) ?_
  refine lv_iload_n hx hb dz1_7 rfl (lv_at hl 1 rfl) ?_
  refine va_tb hx hb hT9 (va_S.rf (A := qAA X)) (i := i) (by rw [hlen]; exact qix_in hi) rfl dz1_8 ?_
  refine lv_sipush hx hb dz1_9 rfl ?_
  refine lv_iand hx hb dz1_12 ?_
  have hj : i.toNatClampNeg < (qstr o).length := by omega
  obtain ⟨e1, e2⟩ := b3 _ hj
  refine lv_i2c (v := Int32.ofNat ((qstr o).getD i.toNatClampNeg 0)) hx hb dz1_13 (by rw [e1]; rfl) ?_
  exact W.zret hx hb hr e2 (fun t ht _ => ⟨rfl, ht⟩) (fun q hq => by cases hq) dz1_14
theorem qstr_f {s : State} {o : Nat} (h : qSM X s) (h1 : 1 ≤ o) (h3 : o ≤ 3) : ∃ adv, va_OF "java/lang/String" "coder" "B" (.int 0) (qrho X o) (qAA X) s s.heap ∧ va_OF "java/lang/String" "value" "[B" (.ref adv) (qrho X o) (qAA X) s s.heap ∧ va_T .byte adv (qlens.getD (o - 1) 0) (fun j => .int ((qbyts.getD (o - 1) []).getD j 0)) (qAA X) s (xH X) := by
  obtain ⟨⟨adV, hs⟩, -⟩ := h.2.2.2.2.2.2.1
  obtain ⟨z1, z2, z3, z4⟩ := hs.1 (o - 1) (by omega)
  have e5 : qrho X o = xS X o := if_pos (by omega)
  dsimp only at z2 z3
  rw [show o - 1 + 1 = o by omega] at z2 z3
  rw [e5]
  exact ⟨adV (o - 1), z2.kept (qjk h), z3.kept (qjk h), z4⟩
theorem qstr_z {s : State} (h : qSM X s) : va_Z "java/lang/String" "COMPACT_STRINGS" "Z" (.int 1) (qAA X) s s.heap := by
  obtain ⟨-, -, -, -, z5, -⟩ := h.2.2.2.2.2.2.1
  exact z5.kept (qjk h)
set_option maxRecDepth 100000 in
theorem mz_coder {o : Nat} (h1 : 1 ≤ o) (h3 : o ≤ 3) : Met l yJ0_coder_7d493 (Cond.code yJ0_coder_7d493 cJ0_coder_7d493 1 (some .byte) :: qTs) { frames := 0, cells := 0, slots := 0, locals := 0 } (va_Pc [.ref (qrho X o)] (qSM X)) (qjQ (some (.int 0))) 0 0 (fun _ => False) := by
  refine Met.ofW (cc := cJ0_coder_7d493) (maxL := 1) (ret := some .byte) (by decide) rfl ?_
  intro p e s mI args below meth c s₁ B hml hv
  obtain ⟨rfl, hM⟩ := hv
  have hx := B.exec
  have hb := B.bytes
  have hr := B.returns
  have hlocks := B.notSynchronized
  have hts0 := atoms_spec (ws := Cond.code yJ0_coder_7d493 cJ0_coder_7d493 1 (some .byte) :: qTs) B.pre
  have hts : ∀ w ∈ qTs, w.before _ s = true := fun w hw => hts0 w (List.mem_cons_of_mem _ hw)
  have hown : s.vm.findClass RJ0 = some mI.cls := findClass_of_methodNamed B.named
  have hl := lv_entry ([.ref (qrho X o)]) (n := 1) (Nat.le_of_ble_eq_true rfl)
  rw [lg_entry_eq]
  generalize (lg_sl ([.ref (qrho X o)]) ++ List.replicate (1 - (lg_sl ([.ref (qrho X o)])).length) Slot.unset).toArray = ls at hl ⊢
  have hl : lv_has ls 1 [(0, .ref (qrho X o))] := hl
  obtain ⟨adv, f1, f2, f3⟩ := qstr_f hM h1 h3
  refine va_gets hx hb (qstr_z hM) (va_S.rf (A := qAA X)) hown (hts (.fieldLink RJ0 38 "java/lang/String" "COMPACT_STRINGS" "Z") (qTs_mem (i := 1242) rfl rfl)) (fun _ h9 => h9) dzk_0 ?_
  refine lv_if_eq (tgt := 13) hx hb dzk_3 (by decide) (fun hc => absurd hc (by decide)) (fun _ => ?_)
  refine lv_aload_n hx hb dzk_6 rfl (lv_at hl 0 rfl) ?_
  refine vk_getf hx hb f1 (va_S.rf (A := qAA X)) hown (hts (.fieldLink RJ0 15 "java/lang/String" "coder" "B") (qTs_mem (i := 1742) rfl rfl)) (fun _ h9 => h9) dzk_7 ?_
  refine lv_goto (tgt := 14) hx hb dzk_10 (by decide) ?_
  exact W.zret hx hb hr rfl (fun t ht _ => ⟨rfl, ht⟩) (fun q hq => by cases hq) dzk_14
set_option maxRecDepth 100000 in
theorem mz_latin {o : Nat} (h1 : 1 ≤ o) (h3 : o ≤ 3) : Met l yJ0_isLatin1_aae02 (Cond.code yJ0_isLatin1_aae02 cJ0_isLatin1_aae02 1 (some .boolean) :: qTs) { frames := 0, cells := 0, slots := 0, locals := 0 } (va_Pc [.ref (qrho X o)] (qSM X)) (qjQ (some (.int 1))) 0 0 (fun _ => False) := by
  refine Met.ofW (cc := cJ0_isLatin1_aae02) (maxL := 1) (ret := some .boolean) (by decide) rfl ?_
  intro p e s mI args below meth c s₁ B hml hv
  obtain ⟨rfl, hM⟩ := hv
  have hx := B.exec
  have hb := B.bytes
  have hr := B.returns
  have hlocks := B.notSynchronized
  have hts0 := atoms_spec (ws := Cond.code yJ0_isLatin1_aae02 cJ0_isLatin1_aae02 1 (some .boolean) :: qTs) B.pre
  have hts : ∀ w ∈ qTs, w.before _ s = true := fun w hw => hts0 w (List.mem_cons_of_mem _ hw)
  have hown : s.vm.findClass RJ0 = some mI.cls := findClass_of_methodNamed B.named
  have hl := lv_entry ([.ref (qrho X o)]) (n := 1) (Nat.le_of_ble_eq_true rfl)
  rw [lg_entry_eq]
  generalize (lg_sl ([.ref (qrho X o)]) ++ List.replicate (1 - (lg_sl ([.ref (qrho X o)])).length) Slot.unset).toArray = ls at hl ⊢
  have hl : lv_has ls 1 [(0, .ref (qrho X o))] := hl
  obtain ⟨adv, f1, f2, f3⟩ := qstr_f hM h1 h3
  refine va_gets hx hb (qstr_z hM) (va_S.rf (A := qAA X)) hown (hts (.fieldLink RJ0 38 "java/lang/String" "COMPACT_STRINGS" "Z") (qTs_mem (i := 1242) rfl rfl)) (fun _ h9 => h9) dzi_0 ?_
  refine lv_if_eq (tgt := 17) hx hb dzi_3 (by decide) (fun hc => absurd hc (by decide)) (fun _ => ?_)
  refine lv_aload_n hx hb dzi_6 rfl (lv_at hl 0 rfl) ?_
  refine vk_getf hx hb f1 (va_S.rf (A := qAA X)) hown (hts (.fieldLink RJ0 15 "java/lang/String" "coder" "B") (qTs_mem (i := 1742) rfl rfl)) (fun _ h9 => h9) dzi_7 ?_
  refine lv_if_ne (tgt := 17) hx hb dzi_10 (by decide) (fun hc => absurd rfl hc) (fun _ => ?_)
  refine lv_iconst (v := 1) hx hb dzi_13 (by decide) ?_
  refine lv_goto (tgt := 18) hx hb dzi_14 (by decide) ?_
  exact W.zret hx hb hr rfl (fun t ht _ => ⟨rfl, ht⟩) (fun q hq => by cases hq) dzi_18
theorem qstr_rc {s : State} {o : Nat} (h : qSM X s) (h1 : 1 ≤ o) (h3 : o ≤ 3) : ∃ cell : Cell, s.heap[qrho X o]? = some cell ∧ cell.vm.isStatics = false ∧ s.vm.findClass RJ0 = some cell.cls := by
  obtain ⟨⟨adV, hs⟩, -⟩ := h.2.2.2.2.2.2.1
  obtain ⟨z1, z2, z3, z4⟩ := hs.1 (o - 1) (by omega)
  have e5 : qrho X o = xS X o := if_pos (by omega)
  dsimp only at z1
  rw [show o - 1 + 1 = o by omega] at z1
  rw [e5]
  obtain ⟨cell, y1, y2, y3, -⟩ := z1.kept (qjk h)
  exact ⟨cell, y1, y2, y3⟩
set_option maxRecDepth 100000 in
theorem mz_length : qSl l X := by
  intro o h1 h3
  obtain ⟨b1, b2, b3⟩ := qbyt_ok o (by omega) h1
  refine Met.ofW (cc := cJ0_length_8abf5) (maxL := 1) (ret := some .int) (by decide) rfl ?_
  intro p e s mI args below meth c s₁ B hml hv
  obtain ⟨rfl, hM⟩ := hv
  have hx := B.exec
  have hb := B.bytes
  have hr := B.returns
  have hlocks := B.notSynchronized
  have hts0 := atoms_spec (ws := Cond.code yJ0_length_8abf5 cJ0_length_8abf5 1 (some .int) :: qTs) B.pre
  have hts : ∀ w ∈ qTs, w.before _ s = true := fun w hw => hts0 w (List.mem_cons_of_mem _ hw)
  have hown : s.vm.findClass RJ0 = some mI.cls := findClass_of_methodNamed B.named
  have hl := lv_entry ([.ref (qrho X o)]) (n := 1) (Nat.le_of_ble_eq_true rfl)
  rw [lg_entry_eq]
  generalize (lg_sl ([.ref (qrho X o)]) ++ List.replicate (1 - (lg_sl ([.ref (qrho X o)])).length) Slot.unset).toArray = ls at hl ⊢
  have hl : lv_has ls 1 [(0, .ref (qrho X o))] := hl
  obtain ⟨adv, f1, f2, f3⟩ := qstr_f hM h1 h3
  refine lv_aload_n hx hb dzl_0 rfl (lv_at hl 0 rfl) ?_
  refine vk_getf hx hb f2 (va_S.rf (A := qAA X)) hown (hts (.fieldLink RJ0 9 "java/lang/String" "value" "[B") (qTs_mem (i := 1741) rfl rfl)) (fun _ h9 => h9) dzl_1 ?_
  refine va_tlen (v := nI (qstr o).length) hx hb (f3.kept (qjk hM)) (va_S.rf (A := qAA X)) (by rw [← b1]; rfl) dzl_4 ?_
  refine lv_aload_n hx hb dzl_5 rfl (lv_at hl 0 rfl) ?_
  refine qfinS (v := some (.int 0)) (va_runV (As := []) (rest := [.int (nI (qstr o).length)]) (b := qrho X o) (n := 0) (C := RJ0) ⟨hx, hb, hml, hown, hts⟩ (mz_coder h1 h3) ⟨callB_of 0 hts (qGoodIn (fun w hw => (List.mem_cons.mp hw).elim (fun e9 => by rw [e9]; exact qTs_mem (i := 1241) rfl rfl) id)) rfl rfl rfl (hts (.initialized RJ0) (qTs_mem (i := 133) rfl rfl)) (hts (.methodLink RJ0 335 yJ0_coder_7d493) (qTs_mem (i := 1238) rfl rfl)) (by decide +kernel) ⟨Nat.le_of_ble_eq_true rfl, Nat.le_of_ble_eq_true rfl⟩, hts (.instanceMethod yJ0_coder_7d493) (qTs_mem (i := 1239) rfl rfl), hts (.selects RJ0 yJ0_coder_7d493 yJ0_coder_7d493) (qTs_mem (i := 1240) rfl rfl)⟩ ⟨qSM_blind, qstr_rc hM h1 h3, fun U hU hW => ⟨rfl, qjS hM rfl U hU hW⟩⟩ rfl rfl hl.1 rfl (Nat.le_of_ble_eq_true rfl) dzl_6 ⟨Nat.le_refl _, Nat.le_refl _⟩) ?_
  refine lv_ishr hx hb dzl_9 ?_
  rw [sc_shr0 b2]
  exact W.iret hx hb hr (fun t ht _ => ⟨rfl, ht⟩) (fun q hq => by cases hq) dzl_10
set_option maxRecDepth 100000 in
theorem mz_charAt : qSc l X := by
  intro o i h1 h3 hi
  obtain ⟨b1, b2, b3⟩ := qbyt_ok o (by omega) h1
  have hix := of_decide_eq_true hi
  obtain ⟨n1, n2⟩ := qnn hix.1
  obtain ⟨e1, e2⟩ := b3 i.toNatClampNeg (by omega)
  refine Met.ofW (cc := cJ0_charAt_5068e) (maxL := 2) (ret := some .char) (by decide) rfl ?_
  intro p e s mI args below meth c s₁ B hml hv
  obtain ⟨rfl, hM⟩ := hv
  have hx := B.exec
  have hb := B.bytes
  have hr := B.returns
  have hlocks := B.notSynchronized
  have hts0 := atoms_spec (ws := Cond.code yJ0_charAt_5068e cJ0_charAt_5068e 2 (some .char) :: qTs) B.pre
  have hts : ∀ w ∈ qTs, w.before _ s = true := fun w hw => hts0 w (List.mem_cons_of_mem _ hw)
  have hown : s.vm.findClass RJ0 = some mI.cls := findClass_of_methodNamed B.named
  have hl := lv_entry ([.ref (qrho X o), .int i]) (n := 2) (Nat.le_of_ble_eq_true rfl)
  rw [lg_entry_eq]
  generalize (lg_sl ([.ref (qrho X o), .int i]) ++ List.replicate (2 - (lg_sl ([.ref (qrho X o), .int i])).length) Slot.unset).toArray = ls at hl ⊢
  have hl : lv_has ls 2 [(0, .ref (qrho X o)), (1, .int i)] := hl
  obtain ⟨adv, f1, f2, f3⟩ := qstr_f hM h1 h3
  refine lv_aload_n hx hb dza_0 rfl (lv_at hl 0 rfl) ?_
  refine qfinS (v := some (.int 1)) (va_runV (As := []) (rest := []) (b := qrho X o) (n := 0) (C := RJ0) ⟨hx, hb, hml, hown, hts⟩ (mz_latin h1 h3) ⟨callB_of 0 hts (qGoodIn (fun w hw => (List.mem_cons.mp hw).elim (fun e9 => by rw [e9]; exact qTs_mem (i := 1251) rfl rfl) id)) rfl rfl rfl (hts (.initialized RJ0) (qTs_mem (i := 133) rfl rfl)) (hts (.methodLink RJ0 492 yJ0_isLatin1_aae02) (qTs_mem (i := 1248) rfl rfl)) (by decide +kernel) ⟨Nat.le_of_ble_eq_true rfl, Nat.le_of_ble_eq_true rfl⟩, hts (.instanceMethod yJ0_isLatin1_aae02) (qTs_mem (i := 1249) rfl rfl), hts (.selects RJ0 yJ0_isLatin1_aae02 yJ0_isLatin1_aae02) (qTs_mem (i := 1250) rfl rfl)⟩ ⟨qSM_blind, qstr_rc hM h1 h3, fun U hU hW => ⟨rfl, qjS hM rfl U hU hW⟩⟩ rfl rfl hl.1 rfl (Nat.le_of_ble_eq_true rfl) dza_1 ⟨Nat.le_refl _, Nat.le_refl _⟩) ?_
  refine lv_if_eq (tgt := 16) hx hb dza_4 (by decide) (fun hc => absurd hc (by decide)) (fun _ => ?_)
  refine lv_aload_n hx hb dza_7 rfl (lv_at hl 0 rfl) ?_
  refine vk_getf hx hb f2 (va_S.rf (A := qAA X)) hown (hts (.fieldLink RJ0 9 "java/lang/String" "value" "[B") (qTs_mem (i := 1741) rfl rfl)) (fun _ h9 => h9) dza_8 ?_
  refine lv_iload_n hx hb dza_11 rfl (lv_at hl 1 rfl) ?_
  refine qfinS (v := some (.int (Int32.ofNat ((qstr o).getD i.toNatClampNeg 0)))) (va_runS (As := [.ref adv, .int i]) (rest := []) (n := 2) ⟨hx, hb, hml, hown, hts⟩ (mz_charL (ad := adv) h1 h3 hi) ⟨callB_of 2 hts (qGoodIn (fun w hw => (List.mem_cons.mp hw).elim (fun e9 => by rw [e9]; exact qTs_mem (i := 1254) rfl rfl) id)) rfl rfl rfl (hts (.initialized RJ1) (qTs_mem (i := 134) rfl rfl)) (hts (.methodLink RJ0 495 yJ1_charAt_3b067) (qTs_mem (i := 1252) rfl rfl)) (by decide +kernel) ⟨Nat.le_of_ble_eq_true rfl, Nat.le_of_ble_eq_true rfl⟩, hts (.static yJ1_charAt_3b067) (qTs_mem (i := 1253) rfl rfl)⟩ ⟨fun a U g9 mk h => ⟨h.1, ⟨h.2.1.1, h.2.1.2.1, qCx.same (s := U) (U := U.calling g9 mk a) rfl h.2.1.2.2⟩, va_T.moved (u := U) (U := U.calling g9 mk a) (Vm.Alike.refl U.vm) h.2.2⟩, fun U hU hW => ⟨rfl, qjS hM rfl U hU hW, va_T.moved hW.alike f3⟩⟩ rfl rfl hl.1 rfl (Nat.le_of_ble_eq_true rfl) dza_12 ⟨Nat.le_refl _, Nat.le_refl _⟩) ?_
  exact W.zret hx hb hr e2 (fun t ht _ => ⟨rfl, ht⟩) (fun q hq => by cases hq) dza_15
end QJM
