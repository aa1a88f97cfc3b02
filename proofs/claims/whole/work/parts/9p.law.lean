/-! the law: its calls, one by one -/
def lwI (L : Nat) (w : W8) (g : qG) (I : qI) : Prop := kIw g I w ∧ rIw I w ∧ okV w ∧ g.1 0 = some (110, L)
def lwF (g g' : qG) (I I' : qI) : Prop := I' 0 = I 0 ∧ g'.2.2.1 ≤ g.2.2.1 + 160 ∧ g'.2.2.2 ≤ g.2.2.2 + 10560
section LAWS
variable {d L i : Nat} {g : qG} {I : qI} {J : qJ} {Q : qQ} {w : W8} {w5 w6 : Value}
theorem lw_fin0 {g1 : qG} {I1 I2 : qI} {w' : W8} (h0 : g.1 0 = some (110, L)) (h120 : 120 ≤ g.2.2.1) (hk1 : kIw g1 I1 w') (F1 : kFr g g1 I I1) (hr2 : rIw I2 w') (F2 : rFw I1 I2) (ok' : okV w') : lwI L w' g1 I2 ∧ lwF g g1 I I2 :=
  ⟨⟨kI.fr hk1 (fun b hb => F2 b (by omega)), hr2, ok', by rw [F1.2.1.2 0 (by omega)]; exact h0⟩, by rw [F2 0 (by omega), F1.1 0 (by omega)], F1.2.2.1, F1.2.2.2⟩
theorem lw_mid {g1 : qG} {I1 : qI} {t : List Nat} {p M : Nat} {s : ST} {hs : List ST} {im : Option ST} {sc : SC} {rf : RF} (hr : rIw I (t, p, M, s, hs, im, sc, rf)) (ok : okV (t, p, M, s, hs, im, sc, rf)) (F1 : kFr g g1 I I1) : rIw I1 (t, p, M, s, hs, im, sc, rf) := rI.fr hr ok (fun b hb => F1.1 b (by omega))
theorem lw_feed (hI : lwI L w g I) (hL : i + 7 ≤ L) (h31 : L < 2 ^ 30) (k : ∀ g' I' J' w', lwI L w' g' I' → lwF g g' I I' → qev (d + 91) 270 (1330, [.ref 0, .ref 4, .ref 105, .ref 119, .int (nI i), w5, w6], [], g', I', J') Q) : qev (d + 91) 270 (188, [.ref 0, .ref 4, .ref 105, .ref 119, .int (nI i), w5, w6], [], g, I, J) Q := by
  obtain ⟨hk, hr, ok, h0⟩ := hI
  obtain ⟨t, p, M, s, hs, im, sc, rf⟩ := w
  have hsh : qSh g := hk.1.1
  have h120 : 120 ≤ g.2.2.1 := hk.1.2.1
  obtain ⟨v, w', ok', K, R⟩ := c_feed (t := t) (rf := rf) (x1 := I 0 (i + 1)) (x2 := I 0 (i + 2)) (x3 := I 0 (i + 3)) (x4 := I 0 (i + 4)) (x5 := I 0 (i + 5)) ok
  refine e_next (pc' := 189) rfl rfl ?_
  refine e_next (pc' := 190) rfl rfl ?_
  refine e_next (pc' := 192) rfl rfl ?_
  refine e_iconst (v := nI 1) (pc' := 193) rfl rfl (by decide +kernel) ?_
  refine e_next (pc' := 194) rfl rfl ?_
  refine e_sald (i + 1) (pc' := 195) rfl rfl h0 (nI_add i 1) (by omega) (by omega) ?_
  refine e_next (pc' := 196) rfl rfl ?_
  refine e_next (pc' := 198) rfl rfl ?_
  refine e_iconst (v := nI 2) (pc' := 199) rfl rfl (by decide +kernel) ?_
  refine e_next (pc' := 200) rfl rfl ?_
  refine e_sald (i + 2) (pc' := 201) rfl rfl h0 (nI_add i 2) (by omega) (by omega) ?_
  refine e_next (pc' := 202) rfl rfl ?_
  refine e_next (pc' := 204) rfl rfl ?_
  refine e_iconst (v := nI 3) (pc' := 205) rfl rfl (by decide +kernel) ?_
  refine e_next (pc' := 206) rfl rfl ?_
  refine e_sald (i + 3) (pc' := 207) rfl rfl h0 (nI_add i 3) (by omega) (by omega) ?_
  refine e_next (pc' := 208) rfl rfl ?_
  refine e_next (pc' := 210) rfl rfl ?_
  refine e_iconst (v := nI 4) (pc' := 211) rfl rfl (by decide +kernel) ?_
  refine e_next (pc' := 212) rfl rfl ?_
  refine e_sald (i + 4) (pc' := 213) rfl rfl h0 (nI_add i 4) (by omega) (by omega) ?_
  refine e_next (pc' := 214) rfl rfl ?_
  refine e_next (pc' := 216) rfl rfl ?_
  refine e_iconst (v := nI 5) (pc' := 217) rfl rfl (by decide +kernel) ?_
  refine e_next (pc' := 218) rfl rfl ?_
  refine e_sald (i + 5) (pc' := 219) rfl rfl h0 (nI_add i 5) (by omega) (by omega) ?_
  refine e_cgI (pc' := 222) rfl (e_sV (as := [_, _, _, _, _]) (fun _ => rfl) (Or.inl rfl) rfl (hsh.o rfl) rfl rfl (Nat.le_of_ble_eq_true rfl) (Nat.le_of_ble_eq_true rfl) rfl) ?_
  refine K d g I J _ hk (fun g1 I1 J1 hk1 F1 => ⟨_, rfl, ?_⟩)
  have hr1 := lw_mid hr ok F1
  have hsh1 : qSh g1 := hk1.1.1
  have e01 : I1 0 = I 0 := F1.1 0 (by omega)
  have h01 : g1.1 0 = some (110, L) := by rw [F1.2.1.2 0 (by omega)]; exact h0
  refine e_next (pc' := 223) rfl rfl ?_
  refine e_next (pc' := 224) rfl rfl ?_
  refine e_next (pc' := 226) rfl rfl ?_
  refine e_iconst (v := nI 1) (pc' := 227) rfl rfl (by decide +kernel) ?_
  refine e_next (pc' := 228) rfl rfl ?_
  refine e_sald (i + 1) (pc' := 229) rfl rfl h01 (nI_add i 1) (by omega) (by omega) ?_
  refine e_next (pc' := 230) rfl rfl ?_
  refine e_next (pc' := 232) rfl rfl ?_
  refine e_iconst (v := nI 2) (pc' := 233) rfl rfl (by decide +kernel) ?_
  refine e_next (pc' := 234) rfl rfl ?_
  refine e_sald (i + 2) (pc' := 235) rfl rfl h01 (nI_add i 2) (by omega) (by omega) ?_
  refine e_next (pc' := 236) rfl rfl ?_
  refine e_next (pc' := 238) rfl rfl ?_
  refine e_iconst (v := nI 3) (pc' := 239) rfl rfl (by decide +kernel) ?_
  refine e_next (pc' := 240) rfl rfl ?_
  refine e_sald (i + 3) (pc' := 241) rfl rfl h01 (nI_add i 3) (by omega) (by omega) ?_
  refine e_next (pc' := 242) rfl rfl ?_
  refine e_next (pc' := 244) rfl rfl ?_
  refine e_iconst (v := nI 4) (pc' := 245) rfl rfl (by decide +kernel) ?_
  refine e_next (pc' := 246) rfl rfl ?_
  refine e_sald (i + 4) (pc' := 247) rfl rfl h01 (nI_add i 4) (by omega) (by omega) ?_
  refine e_next (pc' := 248) rfl rfl ?_
  refine e_next (pc' := 250) rfl rfl ?_
  refine e_iconst (v := nI 5) (pc' := 251) rfl rfl (by decide +kernel) ?_
  refine e_next (pc' := 252) rfl rfl ?_
  refine e_sald (i + 5) (pc' := 253) rfl rfl h01 (nI_add i 5) (by omega) (by omega) ?_
  rw [e01]
  refine e_cgI (pc' := 256) rfl (e_sV (as := [_, _, _, _, _]) (fun _ => rfl) (Or.inl rfl) rfl (hsh1.o rfl) rfl rfl (Nat.le_of_ble_eq_true rfl) (Nat.le_of_ble_eq_true rfl) rfl) ?_
  refine R d g1 I1 J1 _ hsh1 hr1 (fun I2 J2 hr2 F2 => ⟨_, rfl, ?_⟩)
  refine e_icmp (v = v) (pc' := 259) rfl rfl e_d (fun _ => ?_) (fun hc => absurd rfl hc)
  have z := lw_fin0 h0 h120 hk1 F1 hr2 F2 ok'
  exact k g1 I2 J2 w' z.1 z.2
theorem lw_end (hI : lwI L w g I) (hL : i + 7 ≤ L) (h31 : L < 2 ^ 30) (k : ∀ g' I' J' w', lwI L w' g' I' → lwF g g' I I' → qev (d + 91) 270 (1330, [.ref 0, .ref 4, .ref 105, .ref 119, .int (nI i), w5, w6], [], g', I', J') Q) : qev (d + 91) 270 (261, [.ref 0, .ref 4, .ref 105, .ref 119, .int (nI i), w5, w6], [], g, I, J) Q := by
  obtain ⟨hk, hr, ok, h0⟩ := hI
  obtain ⟨t, p, M, s, hs, im, sc, rf⟩ := w
  have hsh : qSh g := hk.1.1
  have h120 : 120 ≤ g.2.2.1 := hk.1.2.1
  have hl : t.length ≤ 320 := hk.2.2.2.1.2.1
  obtain ⟨v, w', ok', K, R⟩ := c_end (t := t) (rf := rf) (x1 := I 0 (i + 1)) ok hl
  refine e_next (pc' := 262) rfl rfl ?_
  refine e_next (pc' := 263) rfl rfl ?_
  refine e_next (pc' := 265) rfl rfl ?_
  refine e_iconst (v := nI 1) (pc' := 266) rfl rfl (by decide +kernel) ?_
  refine e_next (pc' := 267) rfl rfl ?_
  refine e_sald (i + 1) (pc' := 268) rfl rfl h0 (nI_add i 1) (by omega) (by omega) ?_
  refine e_cgI (pc' := 271) rfl (e_sV (as := [_]) (fun _ => rfl) (Or.inl rfl) rfl (hsh.o rfl) rfl rfl (Nat.le_of_ble_eq_true rfl) (Nat.le_of_ble_eq_true rfl) rfl) ?_
  refine K d g I J _ hk (fun g1 I1 J1 hk1 F1 => ⟨_, rfl, ?_⟩)
  have hr1 := lw_mid hr ok F1
  have hsh1 : qSh g1 := hk1.1.1
  have e01 : I1 0 = I 0 := F1.1 0 (by omega)
  have h01 : g1.1 0 = some (110, L) := by rw [F1.2.1.2 0 (by omega)]; exact h0
  refine e_next (pc' := 272) rfl rfl ?_
  refine e_next (pc' := 273) rfl rfl ?_
  refine e_next (pc' := 275) rfl rfl ?_
  refine e_iconst (v := nI 1) (pc' := 276) rfl rfl (by decide +kernel) ?_
  refine e_next (pc' := 277) rfl rfl ?_
  refine e_sald (i + 1) (pc' := 278) rfl rfl h01 (nI_add i 1) (by omega) (by omega) ?_
  rw [e01]
  refine e_cgI (pc' := 281) rfl (e_sV (as := [_]) (fun _ => rfl) (Or.inl rfl) rfl (hsh1.o rfl) rfl rfl (Nat.le_of_ble_eq_true rfl) (Nat.le_of_ble_eq_true rfl) rfl) ?_
  refine R d g1 I1 J1 _ hsh1 hr1 (fun I2 J2 hr2 F2 => ⟨_, rfl, ?_⟩)
  refine e_icmp (v = v) (pc' := 284) rfl rfl e_d (fun _ => ?_) (fun hc => absurd rfl hc)
  have z := lw_fin0 h0 h120 hk1 F1 hr2 F2 ok'
  exact k g1 I2 J2 w' z.1 z.2
theorem lw_fault (hI : lwI L w g I) (hL : i + 7 ≤ L) (h31 : L < 2 ^ 30) (k : ∀ g' I' J' w', lwI L w' g' I' → lwF g g' I I' → qev (d + 91) 270 (1330, [.ref 0, .ref 4, .ref 105, .ref 119, .int (nI i), w5, w6], [], g', I', J') Q) : qev (d + 91) 270 (286, [.ref 0, .ref 4, .ref 105, .ref 119, .int (nI i), w5, w6], [], g, I, J) Q := by
  obtain ⟨hk, hr, ok, h0⟩ := hI
  obtain ⟨t, p, M, s, hs, im, sc, rf⟩ := w
  have hsh : qSh g := hk.1.1
  have h120 : 120 ≤ g.2.2.1 := hk.1.2.1
  obtain ⟨v, w', ok', K, R⟩ := c_fault (t := t) (rf := rf) (x1 := I 0 (i + 1)) ok
  refine e_next (pc' := 287) rfl rfl ?_
  refine e_next (pc' := 288) rfl rfl ?_
  refine e_next (pc' := 290) rfl rfl ?_
  refine e_iconst (v := nI 1) (pc' := 291) rfl rfl (by decide +kernel) ?_
  refine e_next (pc' := 292) rfl rfl ?_
  refine e_sald (i + 1) (pc' := 293) rfl rfl h0 (nI_add i 1) (by omega) (by omega) ?_
  refine e_cgI (pc' := 296) rfl (e_sV (as := [_]) (fun _ => rfl) (Or.inl rfl) rfl (hsh.o rfl) rfl rfl (Nat.le_of_ble_eq_true rfl) (Nat.le_of_ble_eq_true rfl) rfl) ?_
  refine K d g I J _ hk (fun g1 I1 J1 hk1 F1 => ⟨_, rfl, ?_⟩)
  have hr1 := lw_mid hr ok F1
  have hsh1 : qSh g1 := hk1.1.1
  have e01 : I1 0 = I 0 := F1.1 0 (by omega)
  have h01 : g1.1 0 = some (110, L) := by rw [F1.2.1.2 0 (by omega)]; exact h0
  refine e_next (pc' := 297) rfl rfl ?_
  refine e_next (pc' := 298) rfl rfl ?_
  refine e_next (pc' := 300) rfl rfl ?_
  refine e_iconst (v := nI 1) (pc' := 301) rfl rfl (by decide +kernel) ?_
  refine e_next (pc' := 302) rfl rfl ?_
  refine e_sald (i + 1) (pc' := 303) rfl rfl h01 (nI_add i 1) (by omega) (by omega) ?_
  rw [e01]
  refine e_cgI (pc' := 306) rfl (e_sV (as := [_]) (fun _ => rfl) (Or.inl rfl) rfl (hsh1.o rfl) rfl rfl (Nat.le_of_ble_eq_true rfl) (Nat.le_of_ble_eq_true rfl) rfl) ?_
  refine R d g1 I1 J1 _ hsh1 hr1 (fun I2 J2 hr2 F2 => ⟨_, rfl, ?_⟩)
  refine e_icmp (v = v) (pc' := 309) rfl rfl e_d (fun _ => ?_) (fun hc => absurd rfl hc)
  have z := lw_fin0 h0 h120 hk1 F1 hr2 F2 ok'
  exact k g1 I2 J2 w' z.1 z.2
theorem lw_text (hI : lwI L w g I) (hL : i + 7 ≤ L) (h31 : L < 2 ^ 30) (k : ∀ g' I' J' w', lwI L w' g' I' → lwF g g' I I' → qev (d + 91) 270 (1330, [.ref 0, .ref 4, .ref 105, .ref 119, .int (nI i), w5, w6], [], g', I', J') Q) : qev (d + 91) 270 (311, [.ref 0, .ref 4, .ref 105, .ref 119, .int (nI i), w5, w6], [], g, I, J) Q := by
  obtain ⟨hk, hr, ok, h0⟩ := hI
  obtain ⟨t, p, M, s, hs, im, sc, rf⟩ := w
  have hsh : qSh g := hk.1.1
  have h120 : 120 ≤ g.2.2.1 := hk.1.2.1
  have hl : t.length ≤ 320 := hk.2.2.2.1.2.1
  obtain ⟨v, w', ok', K, R⟩ := c_text (t := t) (rf := rf) (x1 := I 0 (i + 1)) ok hl
  refine e_next (pc' := 312) rfl rfl ?_
  refine e_next (pc' := 313) rfl rfl ?_
  refine e_next (pc' := 315) rfl rfl ?_
  refine e_iconst (v := nI 1) (pc' := 316) rfl rfl (by decide +kernel) ?_
  refine e_next (pc' := 317) rfl rfl ?_
  refine e_sald (i + 1) (pc' := 318) rfl rfl h0 (nI_add i 1) (by omega) (by omega) ?_
  refine e_cgI (pc' := 321) rfl (e_sV (as := [_]) (fun _ => rfl) (Or.inl rfl) rfl (hsh.o rfl) rfl rfl (Nat.le_of_ble_eq_true rfl) (Nat.le_of_ble_eq_true rfl) rfl) ?_
  refine K d g I J _ hk (fun g1 I1 J1 hk1 F1 => ⟨_, rfl, ?_⟩)
  have hr1 := lw_mid hr ok F1
  have hsh1 : qSh g1 := hk1.1.1
  have e01 : I1 0 = I 0 := F1.1 0 (by omega)
  have h01 : g1.1 0 = some (110, L) := by rw [F1.2.1.2 0 (by omega)]; exact h0
  refine e_next (pc' := 322) rfl rfl ?_
  refine e_next (pc' := 323) rfl rfl ?_
  refine e_next (pc' := 325) rfl rfl ?_
  refine e_iconst (v := nI 1) (pc' := 326) rfl rfl (by decide +kernel) ?_
  refine e_next (pc' := 327) rfl rfl ?_
  refine e_sald (i + 1) (pc' := 328) rfl rfl h01 (nI_add i 1) (by omega) (by omega) ?_
  rw [e01]
  refine e_cgI (pc' := 331) rfl (e_sV (as := [_]) (fun _ => rfl) (Or.inl rfl) rfl (hsh1.o rfl) rfl rfl (Nat.le_of_ble_eq_true rfl) (Nat.le_of_ble_eq_true rfl) rfl) ?_
  refine R d g1 I1 J1 _ hsh1 hr1 (fun I2 J2 hr2 F2 => ⟨_, rfl, ?_⟩)
  refine e_icmp (v = v) (pc' := 334) rfl rfl e_d (fun _ => ?_) (fun hc => absurd rfl hc)
  have z := lw_fin0 h0 h120 hk1 F1 hr2 F2 ok'
  exact k g1 I2 J2 w' z.1 z.2
theorem lw_rule (hI : lwI L w g I) (hL : i + 7 ≤ L) (h31 : L < 2 ^ 30) (k : ∀ g' I' J' w', lwI L w' g' I' → lwF g g' I I' → qev (d + 91) 270 (1330, [.ref 0, .ref 4, .ref 105, .ref 119, .int (nI i), w5, w6], [], g', I', J') Q) : qev (d + 91) 270 (336, [.ref 0, .ref 4, .ref 105, .ref 119, .int (nI i), w5, w6], [], g, I, J) Q := by
  obtain ⟨hk, hr, ok, h0⟩ := hI
  obtain ⟨t, p, M, s, hs, im, sc, rf⟩ := w
  have hsh : qSh g := hk.1.1
  have h120 : 120 ≤ g.2.2.1 := hk.1.2.1
  obtain ⟨v, w', ok', K, R⟩ := c_rule (t := t) (rf := rf) (x1 := I 0 (i + 1)) ok
  refine e_next (pc' := 337) rfl rfl ?_
  refine e_next (pc' := 338) rfl rfl ?_
  refine e_next (pc' := 340) rfl rfl ?_
  refine e_iconst (v := nI 1) (pc' := 341) rfl rfl (by decide +kernel) ?_
  refine e_next (pc' := 342) rfl rfl ?_
  refine e_sald (i + 1) (pc' := 343) rfl rfl h0 (nI_add i 1) (by omega) (by omega) ?_
  refine e_cgI (pc' := 346) rfl (e_sV (as := [_]) (fun _ => rfl) (Or.inl rfl) rfl (hsh.o rfl) rfl rfl (Nat.le_of_ble_eq_true rfl) (Nat.le_of_ble_eq_true rfl) rfl) ?_
  refine K d g I J _ hk (fun g1 I1 J1 hk1 F1 => ⟨_, rfl, ?_⟩)
  have hr1 := lw_mid hr ok F1
  have hsh1 : qSh g1 := hk1.1.1
  have e01 : I1 0 = I 0 := F1.1 0 (by omega)
  have h01 : g1.1 0 = some (110, L) := by rw [F1.2.1.2 0 (by omega)]; exact h0
  refine e_next (pc' := 347) rfl rfl ?_
  refine e_next (pc' := 348) rfl rfl ?_
  refine e_next (pc' := 350) rfl rfl ?_
  refine e_iconst (v := nI 1) (pc' := 351) rfl rfl (by decide +kernel) ?_
  refine e_next (pc' := 352) rfl rfl ?_
  refine e_sald (i + 1) (pc' := 353) rfl rfl h01 (nI_add i 1) (by omega) (by omega) ?_
  rw [e01]
  refine e_cgI (pc' := 356) rfl (e_sV (as := [_]) (fun _ => rfl) (Or.inl rfl) rfl (hsh1.o rfl) rfl rfl (Nat.le_of_ble_eq_true rfl) (Nat.le_of_ble_eq_true rfl) rfl) ?_
  refine R d g1 I1 J1 _ hsh1 hr1 (fun I2 J2 hr2 F2 => ⟨_, rfl, ?_⟩)
  refine e_icmp (v = v) (pc' := 359) rfl rfl e_d (fun _ => ?_) (fun hc => absurd rfl hc)
  have z := lw_fin0 h0 h120 hk1 F1 hr2 F2 ok'
  exact k g1 I2 J2 w' z.1 z.2
theorem lw_step (hI : lwI L w g I) (hL : i + 7 ≤ L) (h31 : L < 2 ^ 30) (k : ∀ g' I' J' w', lwI L w' g' I' → lwF g g' I I' → qev (d + 91) 270 (1330, [.ref 0, .ref 4, .ref 105, .ref 119, .int (nI i), w5, w6], [], g', I', J') Q) : qev (d + 91) 270 (361, [.ref 0, .ref 4, .ref 105, .ref 119, .int (nI i), w5, w6], [], g, I, J) Q := by
  obtain ⟨hk, hr, ok, h0⟩ := hI
  obtain ⟨t, p, M, s, hs, im, sc, rf⟩ := w
  have hsh : qSh g := hk.1.1
  have h120 : 120 ≤ g.2.2.1 := hk.1.2.1
  have hl : t.length ≤ 320 := hk.2.2.2.1.2.1
  obtain ⟨v, w', ok', K, R⟩ := c_step (t := t) (rf := rf) ok hl
  refine e_next (pc' := 362) rfl rfl ?_
  refine e_cgI (pc' := 365) rfl (e_sV (as := []) (fun _ => rfl) (Or.inl rfl) rfl (hsh.o rfl) rfl rfl (Nat.le_of_ble_eq_true rfl) (Nat.le_of_ble_eq_true rfl) rfl) ?_
  refine K d g I J _ hk (fun g1 I1 J1 hk1 F1 => ⟨_, rfl, ?_⟩)
  have hr1 := lw_mid hr ok F1
  have hsh1 : qSh g1 := hk1.1.1
  have e01 : I1 0 = I 0 := F1.1 0 (by omega)
  have h01 : g1.1 0 = some (110, L) := by rw [F1.2.1.2 0 (by omega)]; exact h0
  refine e_next (pc' := 366) rfl rfl ?_
  refine e_cgI (pc' := 369) rfl (e_sV (as := []) (fun _ => rfl) (Or.inl rfl) rfl (hsh1.o rfl) rfl rfl (Nat.le_of_ble_eq_true rfl) (Nat.le_of_ble_eq_true rfl) rfl) ?_
  refine R d g1 I1 J1 _ hsh1 hr1 (fun I2 J2 hr2 F2 => ⟨_, rfl, ?_⟩)
  refine e_icmp (v = v) (pc' := 372) rfl rfl e_d (fun _ => ?_) (fun hc => absurd rfl hc)
  have z := lw_fin0 h0 h120 hk1 F1 hr2 F2 ok'
  exact k g1 I2 J2 w' z.1 z.2
theorem lw_would (hI : lwI L w g I) (hL : i + 7 ≤ L) (h31 : L < 2 ^ 30) (k : ∀ g' I' J' w', lwI L w' g' I' → lwF g g' I I' → qev (d + 91) 270 (1330, [.ref 0, .ref 4, .ref 105, .ref 119, .int (nI i), w5, w6], [], g', I', J') Q) : qev (d + 91) 270 (374, [.ref 0, .ref 4, .ref 105, .ref 119, .int (nI i), w5, w6], [], g, I, J) Q := by
  obtain ⟨hk, hr, ok, h0⟩ := hI
  obtain ⟨t, p, M, s, hs, im, sc, rf⟩ := w
  have hsh : qSh g := hk.1.1
  have h120 : 120 ≤ g.2.2.1 := hk.1.2.1
  have hl : t.length ≤ 320 := hk.2.2.2.1.2.1
  obtain ⟨v, w', ok', K, R⟩ := c_would (t := t) (rf := rf) (x1 := I 0 (i + 1)) ok hl
  refine e_next (pc' := 375) rfl rfl ?_
  refine e_next (pc' := 376) rfl rfl ?_
  refine e_next (pc' := 378) rfl rfl ?_
  refine e_iconst (v := nI 1) (pc' := 379) rfl rfl (by decide +kernel) ?_
  refine e_next (pc' := 380) rfl rfl ?_
  refine e_sald (i + 1) (pc' := 381) rfl rfl h0 (nI_add i 1) (by omega) (by omega) ?_
  refine e_cgI (pc' := 384) rfl (e_sV (as := [_]) (fun _ => rfl) (Or.inl rfl) rfl (hsh.o rfl) rfl rfl (Nat.le_of_ble_eq_true rfl) (Nat.le_of_ble_eq_true rfl) rfl) ?_
  refine K d g I J _ hk (fun g1 I1 J1 hk1 F1 => ⟨_, rfl, ?_⟩)
  have hr1 := lw_mid hr ok F1
  have hsh1 : qSh g1 := hk1.1.1
  have e01 : I1 0 = I 0 := F1.1 0 (by omega)
  have h01 : g1.1 0 = some (110, L) := by rw [F1.2.1.2 0 (by omega)]; exact h0
  refine e_next (pc' := 385) rfl rfl ?_
  refine e_next (pc' := 386) rfl rfl ?_
  refine e_next (pc' := 388) rfl rfl ?_
  refine e_iconst (v := nI 1) (pc' := 389) rfl rfl (by decide +kernel) ?_
  refine e_next (pc' := 390) rfl rfl ?_
  refine e_sald (i + 1) (pc' := 391) rfl rfl h01 (nI_add i 1) (by omega) (by omega) ?_
  rw [e01]
  refine e_cgI (pc' := 394) rfl (e_sV (as := [_]) (fun _ => rfl) (Or.inl rfl) rfl (hsh1.o rfl) rfl rfl (Nat.le_of_ble_eq_true rfl) (Nat.le_of_ble_eq_true rfl) rfl) ?_
  refine R d g1 I1 J1 _ hsh1 hr1 (fun I2 J2 hr2 F2 => ⟨_, rfl, ?_⟩)
  refine e_icmp (v = v) (pc' := 397) rfl rfl e_d (fun _ => ?_) (fun hc => absurd rfl hc)
  have z := lw_fin0 h0 h120 hk1 F1 hr2 F2 ok'
  exact k g1 I2 J2 w' z.1 z.2
theorem lw_why (hI : lwI L w g I) (hL : i + 7 ≤ L) (h31 : L < 2 ^ 30) (k : ∀ g' I' J' w', lwI L w' g' I' → lwF g g' I I' → qev (d + 91) 270 (1330, [.ref 0, .ref 4, .ref 105, .ref 119, .int (nI i), w5, w6], [], g', I', J') Q) : qev (d + 91) 270 (399, [.ref 0, .ref 4, .ref 105, .ref 119, .int (nI i), w5, w6], [], g, I, J) Q := by
  obtain ⟨hk, hr, ok, h0⟩ := hI
  obtain ⟨t, p, M, s, hs, im, sc, rf⟩ := w
  have hsh : qSh g := hk.1.1
  have h120 : 120 ≤ g.2.2.1 := hk.1.2.1
  obtain ⟨v, w', ok', K, R⟩ := c_why (t := t) (rf := rf) ok
  refine e_next (pc' := 400) rfl rfl ?_
  refine e_cgI (pc' := 403) rfl (e_sV (as := []) (fun _ => rfl) (Or.inl rfl) rfl (hsh.o rfl) rfl rfl (Nat.le_of_ble_eq_true rfl) (Nat.le_of_ble_eq_true rfl) rfl) ?_
  refine K d g I J _ hk (fun g1 I1 J1 hk1 F1 => ⟨_, rfl, ?_⟩)
  have hr1 := lw_mid hr ok F1
  have hsh1 : qSh g1 := hk1.1.1
  have e01 : I1 0 = I 0 := F1.1 0 (by omega)
  have h01 : g1.1 0 = some (110, L) := by rw [F1.2.1.2 0 (by omega)]; exact h0
  refine e_next (pc' := 404) rfl rfl ?_
  refine e_cgI (pc' := 407) rfl (e_sV (as := []) (fun _ => rfl) (Or.inl rfl) rfl (hsh1.o rfl) rfl rfl (Nat.le_of_ble_eq_true rfl) (Nat.le_of_ble_eq_true rfl) rfl) ?_
  refine R d g1 I1 J1 _ hsh1 hr1 (fun I2 J2 hr2 F2 => ⟨_, rfl, ?_⟩)
  refine e_icmp (v = v) (pc' := 410) rfl rfl e_d (fun _ => ?_) (fun hc => absurd rfl hc)
  have z := lw_fin0 h0 h120 hk1 F1 hr2 F2 ok'
  exact k g1 I2 J2 w' z.1 z.2
theorem lw_known (hI : lwI L w g I) (hL : i + 7 ≤ L) (h31 : L < 2 ^ 30) (k : ∀ g' I' J' w', lwI L w' g' I' → lwF g g' I I' → qev (d + 91) 270 (1330, [.ref 0, .ref 4, .ref 105, .ref 119, .int (nI i), w5, w6], [], g', I', J') Q) : qev (d + 91) 270 (412, [.ref 0, .ref 4, .ref 105, .ref 119, .int (nI i), w5, w6], [], g, I, J) Q := by
  obtain ⟨hk, hr, ok, h0⟩ := hI
  obtain ⟨t, p, M, s, hs, im, sc, rf⟩ := w
  have hsh : qSh g := hk.1.1
  have h120 : 120 ≤ g.2.2.1 := hk.1.2.1
  obtain ⟨v, w', ok', K, R⟩ := c_known (t := t) (rf := rf) (x1 := I 0 (i + 1)) ok
  refine e_next (pc' := 413) rfl rfl ?_
  refine e_next (pc' := 414) rfl rfl ?_
  refine e_next (pc' := 416) rfl rfl ?_
  refine e_iconst (v := nI 1) (pc' := 417) rfl rfl (by decide +kernel) ?_
  refine e_next (pc' := 418) rfl rfl ?_
  refine e_sald (i + 1) (pc' := 419) rfl rfl h0 (nI_add i 1) (by omega) (by omega) ?_
  refine e_cgI (pc' := 422) rfl (e_sV (as := [_]) (fun _ => rfl) (Or.inl rfl) rfl (hsh.o rfl) rfl rfl (Nat.le_of_ble_eq_true rfl) (Nat.le_of_ble_eq_true rfl) rfl) ?_
  refine K d g I J _ hk (fun g1 I1 J1 hk1 F1 => ⟨_, rfl, ?_⟩)
  have hr1 := lw_mid hr ok F1
  have hsh1 : qSh g1 := hk1.1.1
  have e01 : I1 0 = I 0 := F1.1 0 (by omega)
  have h01 : g1.1 0 = some (110, L) := by rw [F1.2.1.2 0 (by omega)]; exact h0
  refine e_next (pc' := 423) rfl rfl ?_
  refine e_next (pc' := 424) rfl rfl ?_
  refine e_next (pc' := 426) rfl rfl ?_
  refine e_iconst (v := nI 1) (pc' := 427) rfl rfl (by decide +kernel) ?_
  refine e_next (pc' := 428) rfl rfl ?_
  refine e_sald (i + 1) (pc' := 429) rfl rfl h01 (nI_add i 1) (by omega) (by omega) ?_
  rw [e01]
  refine e_cgI (pc' := 432) rfl (e_sV (as := [_]) (fun _ => rfl) (Or.inl rfl) rfl (hsh1.o rfl) rfl rfl (Nat.le_of_ble_eq_true rfl) (Nat.le_of_ble_eq_true rfl) rfl) ?_
  refine R d g1 I1 J1 _ hsh1 hr1 (fun I2 J2 hr2 F2 => ⟨_, rfl, ?_⟩)
  refine e_icmp (v = v) (pc' := 435) rfl rfl e_d (fun _ => ?_) (fun hc => absurd rfl hc)
  have z := lw_fin0 h0 h120 hk1 F1 hr2 F2 ok'
  exact k g1 I2 J2 w' z.1 z.2
theorem lw_order (hI : lwI L w g I) (hL : i + 7 ≤ L) (h31 : L < 2 ^ 30) (k : ∀ g' I' J' w', lwI L w' g' I' → lwF g g' I I' → qev (d + 91) 270 (1330, [.ref 0, .ref 4, .ref 105, .ref 119, .int (nI i), w5, w6], [], g', I', J') Q) : qev (d + 91) 270 (505, [.ref 0, .ref 4, .ref 105, .ref 119, .int (nI i), w5, w6], [], g, I, J) Q := by
  obtain ⟨hk, hr, ok, h0⟩ := hI
  obtain ⟨t, p, M, s, hs, im, sc, rf⟩ := w
  have hsh : qSh g := hk.1.1
  have h120 : 120 ≤ g.2.2.1 := hk.1.2.1
  obtain ⟨v, w', ok', K, R⟩ := c_order (t := t) (rf := rf) (x1 := I 0 (i + 1)) ok
  refine e_next (pc' := 506) rfl rfl ?_
  refine e_next (pc' := 507) rfl rfl ?_
  refine e_next (pc' := 509) rfl rfl ?_
  refine e_iconst (v := nI 1) (pc' := 510) rfl rfl (by decide +kernel) ?_
  refine e_next (pc' := 511) rfl rfl ?_
  refine e_sald (i + 1) (pc' := 512) rfl rfl h0 (nI_add i 1) (by omega) (by omega) ?_
  refine e_cgI (pc' := 515) rfl (e_sV (as := [_]) (fun _ => rfl) (Or.inl rfl) rfl (hsh.o rfl) rfl rfl (Nat.le_of_ble_eq_true rfl) (Nat.le_of_ble_eq_true rfl) rfl) ?_
  refine K d g I J _ hk (fun g1 I1 J1 hk1 F1 => ⟨_, rfl, ?_⟩)
  have hr1 := lw_mid hr ok F1
  have hsh1 : qSh g1 := hk1.1.1
  have e01 : I1 0 = I 0 := F1.1 0 (by omega)
  have h01 : g1.1 0 = some (110, L) := by rw [F1.2.1.2 0 (by omega)]; exact h0
  refine e_next (pc' := 516) rfl rfl ?_
  refine e_next (pc' := 517) rfl rfl ?_
  refine e_next (pc' := 519) rfl rfl ?_
  refine e_iconst (v := nI 1) (pc' := 520) rfl rfl (by decide +kernel) ?_
  refine e_next (pc' := 521) rfl rfl ?_
  refine e_sald (i + 1) (pc' := 522) rfl rfl h01 (nI_add i 1) (by omega) (by omega) ?_
  rw [e01]
  refine e_cgI (pc' := 525) rfl (e_sV (as := [_]) (fun _ => rfl) (Or.inl rfl) rfl (hsh1.o rfl) rfl rfl (Nat.le_of_ble_eq_true rfl) (Nat.le_of_ble_eq_true rfl) rfl) ?_
  refine R d g1 I1 J1 _ hsh1 hr1 (fun I2 J2 hr2 F2 => ⟨_, rfl, ?_⟩)
  refine e_icmp (v = v) (pc' := 528) rfl rfl e_d (fun _ => ?_) (fun hc => absurd rfl hc)
  have z := lw_fin0 h0 h120 hk1 F1 hr2 F2 ok'
  exact k g1 I2 J2 w' z.1 z.2
theorem lw_cut (hI : lwI L w g I) (hL : i + 7 ≤ L) (h31 : L < 2 ^ 30) (k : ∀ g' I' J' w', lwI L w' g' I' → lwF g g' I I' → qev (d + 91) 270 (1330, [.ref 0, .ref 4, .ref 105, .ref 119, .int (nI i), w5, w6], [], g', I', J') Q) : qev (d + 91) 270 (530, [.ref 0, .ref 4, .ref 105, .ref 119, .int (nI i), w5, w6], [], g, I, J) Q := by
  obtain ⟨hk, hr, ok, h0⟩ := hI
  obtain ⟨t, p, M, s, hs, im, sc, rf⟩ := w
  have hsh : qSh g := hk.1.1
  have h120 : 120 ≤ g.2.2.1 := hk.1.2.1
  obtain ⟨v, w', ok', K, R⟩ := c_cut (t := t) (rf := rf) (x1 := I 0 (i + 1)) (x2 := I 0 (i + 2)) ok
  refine e_next (pc' := 531) rfl rfl ?_
  refine e_next (pc' := 532) rfl rfl ?_
  refine e_next (pc' := 534) rfl rfl ?_
  refine e_iconst (v := nI 1) (pc' := 535) rfl rfl (by decide +kernel) ?_
  refine e_next (pc' := 536) rfl rfl ?_
  refine e_sald (i + 1) (pc' := 537) rfl rfl h0 (nI_add i 1) (by omega) (by omega) ?_
  refine e_next (pc' := 538) rfl rfl ?_
  refine e_next (pc' := 540) rfl rfl ?_
  refine e_iconst (v := nI 2) (pc' := 541) rfl rfl (by decide +kernel) ?_
  refine e_next (pc' := 542) rfl rfl ?_
  refine e_sald (i + 2) (pc' := 543) rfl rfl h0 (nI_add i 2) (by omega) (by omega) ?_
  refine e_cgI (pc' := 546) rfl (e_sV (as := [_, _]) (fun _ => rfl) (Or.inl rfl) rfl (hsh.o rfl) rfl rfl (Nat.le_of_ble_eq_true rfl) (Nat.le_of_ble_eq_true rfl) rfl) ?_
  refine K d g I J _ hk (fun g1 I1 J1 hk1 F1 => ⟨_, rfl, ?_⟩)
  have hr1 := lw_mid hr ok F1
  have hsh1 : qSh g1 := hk1.1.1
  have e01 : I1 0 = I 0 := F1.1 0 (by omega)
  have h01 : g1.1 0 = some (110, L) := by rw [F1.2.1.2 0 (by omega)]; exact h0
  refine e_next (pc' := 547) rfl rfl ?_
  refine e_next (pc' := 548) rfl rfl ?_
  refine e_next (pc' := 550) rfl rfl ?_
  refine e_iconst (v := nI 1) (pc' := 551) rfl rfl (by decide +kernel) ?_
  refine e_next (pc' := 552) rfl rfl ?_
  refine e_sald (i + 1) (pc' := 553) rfl rfl h01 (nI_add i 1) (by omega) (by omega) ?_
  refine e_next (pc' := 554) rfl rfl ?_
  refine e_next (pc' := 556) rfl rfl ?_
  refine e_iconst (v := nI 2) (pc' := 557) rfl rfl (by decide +kernel) ?_
  refine e_next (pc' := 558) rfl rfl ?_
  refine e_sald (i + 2) (pc' := 559) rfl rfl h01 (nI_add i 2) (by omega) (by omega) ?_
  rw [e01]
  refine e_cgI (pc' := 562) rfl (e_sV (as := [_, _]) (fun _ => rfl) (Or.inl rfl) rfl (hsh1.o rfl) rfl rfl (Nat.le_of_ble_eq_true rfl) (Nat.le_of_ble_eq_true rfl) rfl) ?_
  refine R d g1 I1 J1 _ hsh1 hr1 (fun I2 J2 hr2 F2 => ⟨_, rfl, ?_⟩)
  refine e_icmp (v = v) (pc' := 565) rfl rfl e_d (fun _ => ?_) (fun hc => absurd rfl hc)
  have z := lw_fin0 h0 h120 hk1 F1 hr2 F2 ok'
  exact k g1 I2 J2 w' z.1 z.2
theorem lw_drop (hI : lwI L w g I) (hL : i + 7 ≤ L) (h31 : L < 2 ^ 30) (k : ∀ g' I' J' w', lwI L w' g' I' → lwF g g' I I' → qev (d + 91) 270 (1330, [.ref 0, .ref 4, .ref 105, .ref 119, .int (nI i), w5, w6], [], g', I', J') Q) : qev (d + 91) 270 (567, [.ref 0, .ref 4, .ref 105, .ref 119, .int (nI i), w5, w6], [], g, I, J) Q := by
  obtain ⟨hk, hr, ok, h0⟩ := hI
  obtain ⟨t, p, M, s, hs, im, sc, rf⟩ := w
  have hsh : qSh g := hk.1.1
  have h120 : 120 ≤ g.2.2.1 := hk.1.2.1
  obtain ⟨v, w', ok', K, R⟩ := c_drop (t := t) (rf := rf) (x1 := I 0 (i + 1)) ok
  refine e_next (pc' := 568) rfl rfl ?_
  refine e_next (pc' := 569) rfl rfl ?_
  refine e_next (pc' := 571) rfl rfl ?_
  refine e_iconst (v := nI 1) (pc' := 572) rfl rfl (by decide +kernel) ?_
  refine e_next (pc' := 573) rfl rfl ?_
  refine e_sald (i + 1) (pc' := 574) rfl rfl h0 (nI_add i 1) (by omega) (by omega) ?_
  refine e_cgI (pc' := 577) rfl (e_sV (as := [_]) (fun _ => rfl) (Or.inl rfl) rfl (hsh.o rfl) rfl rfl (Nat.le_of_ble_eq_true rfl) (Nat.le_of_ble_eq_true rfl) rfl) ?_
  refine K d g I J _ hk (fun g1 I1 J1 hk1 F1 => ⟨_, rfl, ?_⟩)
  have hr1 := lw_mid hr ok F1
  have hsh1 : qSh g1 := hk1.1.1
  have e01 : I1 0 = I 0 := F1.1 0 (by omega)
  have h01 : g1.1 0 = some (110, L) := by rw [F1.2.1.2 0 (by omega)]; exact h0
  refine e_next (pc' := 578) rfl rfl ?_
  refine e_next (pc' := 579) rfl rfl ?_
  refine e_next (pc' := 581) rfl rfl ?_
  refine e_iconst (v := nI 1) (pc' := 582) rfl rfl (by decide +kernel) ?_
  refine e_next (pc' := 583) rfl rfl ?_
  refine e_sald (i + 1) (pc' := 584) rfl rfl h01 (nI_add i 1) (by omega) (by omega) ?_
  rw [e01]
  refine e_cgI (pc' := 587) rfl (e_sV (as := [_]) (fun _ => rfl) (Or.inl rfl) rfl (hsh1.o rfl) rfl rfl (Nat.le_of_ble_eq_true rfl) (Nat.le_of_ble_eq_true rfl) rfl) ?_
  refine R d g1 I1 J1 _ hsh1 hr1 (fun I2 J2 hr2 F2 => ⟨_, rfl, ?_⟩)
  refine e_icmp (v = v) (pc' := 590) rfl rfl e_d (fun _ => ?_) (fun hc => absurd rfl hc)
  have z := lw_fin0 h0 h120 hk1 F1 hr2 F2 ok'
  exact k g1 I2 J2 w' z.1 z.2
theorem lw_swap (hI : lwI L w g I) (hL : i + 7 ≤ L) (h31 : L < 2 ^ 30) (k : ∀ g' I' J' w', lwI L w' g' I' → lwF g g' I I' → qev (d + 91) 270 (1330, [.ref 0, .ref 4, .ref 105, .ref 119, .int (nI i), w5, w6], [], g', I', J') Q) : qev (d + 91) 270 (592, [.ref 0, .ref 4, .ref 105, .ref 119, .int (nI i), w5, w6], [], g, I, J) Q := by
  obtain ⟨hk, hr, ok, h0⟩ := hI
  obtain ⟨t, p, M, s, hs, im, sc, rf⟩ := w
  have hsh : qSh g := hk.1.1
  have h120 : 120 ≤ g.2.2.1 := hk.1.2.1
  obtain ⟨v, w', ok', K, R⟩ := c_swap (t := t) (rf := rf) (x1 := I 0 (i + 1)) (x2 := I 0 (i + 2)) ok
  refine e_next (pc' := 593) rfl rfl ?_
  refine e_next (pc' := 594) rfl rfl ?_
  refine e_next (pc' := 596) rfl rfl ?_
  refine e_iconst (v := nI 1) (pc' := 597) rfl rfl (by decide +kernel) ?_
  refine e_next (pc' := 598) rfl rfl ?_
  refine e_sald (i + 1) (pc' := 599) rfl rfl h0 (nI_add i 1) (by omega) (by omega) ?_
  refine e_next (pc' := 600) rfl rfl ?_
  refine e_next (pc' := 602) rfl rfl ?_
  refine e_iconst (v := nI 2) (pc' := 603) rfl rfl (by decide +kernel) ?_
  refine e_next (pc' := 604) rfl rfl ?_
  refine e_sald (i + 2) (pc' := 605) rfl rfl h0 (nI_add i 2) (by omega) (by omega) ?_
  refine e_cgI (pc' := 608) rfl (e_sV (as := [_, _]) (fun _ => rfl) (Or.inl rfl) rfl (hsh.o rfl) rfl rfl (Nat.le_of_ble_eq_true rfl) (Nat.le_of_ble_eq_true rfl) rfl) ?_
  refine K d g I J _ hk (fun g1 I1 J1 hk1 F1 => ⟨_, rfl, ?_⟩)
  have hr1 := lw_mid hr ok F1
  have hsh1 : qSh g1 := hk1.1.1
  have e01 : I1 0 = I 0 := F1.1 0 (by omega)
  have h01 : g1.1 0 = some (110, L) := by rw [F1.2.1.2 0 (by omega)]; exact h0
  refine e_next (pc' := 609) rfl rfl ?_
  refine e_next (pc' := 610) rfl rfl ?_
  refine e_next (pc' := 612) rfl rfl ?_
  refine e_iconst (v := nI 1) (pc' := 613) rfl rfl (by decide +kernel) ?_
  refine e_next (pc' := 614) rfl rfl ?_
  refine e_sald (i + 1) (pc' := 615) rfl rfl h01 (nI_add i 1) (by omega) (by omega) ?_
  refine e_next (pc' := 616) rfl rfl ?_
  refine e_next (pc' := 618) rfl rfl ?_
  refine e_iconst (v := nI 2) (pc' := 619) rfl rfl (by decide +kernel) ?_
  refine e_next (pc' := 620) rfl rfl ?_
  refine e_sald (i + 2) (pc' := 621) rfl rfl h01 (nI_add i 2) (by omega) (by omega) ?_
  rw [e01]
  refine e_cgI (pc' := 624) rfl (e_sV (as := [_, _]) (fun _ => rfl) (Or.inl rfl) rfl (hsh1.o rfl) rfl rfl (Nat.le_of_ble_eq_true rfl) (Nat.le_of_ble_eq_true rfl) rfl) ?_
  refine R d g1 I1 J1 _ hsh1 hr1 (fun I2 J2 hr2 F2 => ⟨_, rfl, ?_⟩)
  refine e_icmp (v = v) (pc' := 627) rfl rfl e_d (fun _ => ?_) (fun hc => absurd rfl hc)
  have z := lw_fin0 h0 h120 hk1 F1 hr2 F2 ok'
  exact k g1 I2 J2 w' z.1 z.2
theorem lw_perform (hI : lwI L w g I) (hL : i + 7 ≤ L) (h31 : L < 2 ^ 30) (k : ∀ g' I' J' w', lwI L w' g' I' → lwF g g' I I' → qev (d + 91) 270 (1330, [.ref 0, .ref 4, .ref 105, .ref 119, .int (nI i), w5, w6], [], g', I', J') Q) : qev (d + 91) 270 (629, [.ref 0, .ref 4, .ref 105, .ref 119, .int (nI i), w5, w6], [], g, I, J) Q := by
  obtain ⟨hk, hr, ok, h0⟩ := hI
  obtain ⟨t, p, M, s, hs, im, sc, rf⟩ := w
  have hsh : qSh g := hk.1.1
  have h120 : 120 ≤ g.2.2.1 := hk.1.2.1
  obtain ⟨v, w', ok', K, R⟩ := c_perform (t := t) (rf := rf) (x1 := I 0 (i + 1)) ok
  refine e_next (pc' := 630) rfl rfl ?_
  refine e_next (pc' := 631) rfl rfl ?_
  refine e_next (pc' := 633) rfl rfl ?_
  refine e_iconst (v := nI 1) (pc' := 634) rfl rfl (by decide +kernel) ?_
  refine e_next (pc' := 635) rfl rfl ?_
  refine e_sald (i + 1) (pc' := 636) rfl rfl h0 (nI_add i 1) (by omega) (by omega) ?_
  refine e_cgI (pc' := 639) rfl (e_sV (as := [_]) (fun _ => rfl) (Or.inl rfl) rfl (hsh.o rfl) rfl rfl (Nat.le_of_ble_eq_true rfl) (Nat.le_of_ble_eq_true rfl) rfl) ?_
  refine K d g I J _ hk (fun g1 I1 J1 hk1 F1 => ⟨_, rfl, ?_⟩)
  have hr1 := lw_mid hr ok F1
  have hsh1 : qSh g1 := hk1.1.1
  have e01 : I1 0 = I 0 := F1.1 0 (by omega)
  have h01 : g1.1 0 = some (110, L) := by rw [F1.2.1.2 0 (by omega)]; exact h0
  refine e_next (pc' := 640) rfl rfl ?_
  refine e_next (pc' := 641) rfl rfl ?_
  refine e_next (pc' := 643) rfl rfl ?_
  refine e_iconst (v := nI 1) (pc' := 644) rfl rfl (by decide +kernel) ?_
  refine e_next (pc' := 645) rfl rfl ?_
  refine e_sald (i + 1) (pc' := 646) rfl rfl h01 (nI_add i 1) (by omega) (by omega) ?_
  rw [e01]
  refine e_cgI (pc' := 649) rfl (e_sV (as := [_]) (fun _ => rfl) (Or.inl rfl) rfl (hsh1.o rfl) rfl rfl (Nat.le_of_ble_eq_true rfl) (Nat.le_of_ble_eq_true rfl) rfl) ?_
  refine R d g1 I1 J1 _ hsh1 hr1 (fun I2 J2 hr2 F2 => ⟨_, rfl, ?_⟩)
  refine e_icmp (v = v) (pc' := 652) rfl rfl e_d (fun _ => ?_) (fun hc => absurd rfl hc)
  have z := lw_fin0 h0 h120 hk1 F1 hr2 F2 ok'
  exact k g1 I2 J2 w' z.1 z.2
theorem lw_years (hI : lwI L w g I) (hL : i + 7 ≤ L) (h31 : L < 2 ^ 30) (k : ∀ g' I' J' w', lwI L w' g' I' → lwF g g' I I' → qev (d + 91) 270 (1330, [.ref 0, .ref 4, .ref 105, .ref 119, .int (nI i), w5, w6], [], g', I', J') Q) : qev (d + 91) 270 (654, [.ref 0, .ref 4, .ref 105, .ref 119, .int (nI i), w5, w6], [], g, I, J) Q := by
  obtain ⟨hk, hr, ok, h0⟩ := hI
  obtain ⟨t, p, M, s, hs, im, sc, rf⟩ := w
  have hsh : qSh g := hk.1.1
  have h120 : 120 ≤ g.2.2.1 := hk.1.2.1
  obtain ⟨v, w', ok', K, R⟩ := c_years (t := t) (rf := rf) (x1 := I 0 (i + 1)) (x2 := ((Int32.toInt64 (I 0 (i + 2)) <<< ((nI 32).toInt64 &&& 63)) ||| (Int32.toInt64 (I 0 (i + 3)) &&& lN 4294967295))) ok
  refine e_next (pc' := 655) rfl rfl ?_
  refine e_next (pc' := 656) rfl rfl ?_
  refine e_next (pc' := 658) rfl rfl ?_
  refine e_iconst (v := nI 1) (pc' := 659) rfl rfl (by decide +kernel) ?_
  refine e_next (pc' := 660) rfl rfl ?_
  refine e_sald (i + 1) (pc' := 661) rfl rfl h0 (nI_add i 1) (by omega) (by omega) ?_
  refine e_next (pc' := 662) rfl rfl ?_
  refine e_next (pc' := 664) rfl rfl ?_
  refine e_iconst (v := nI 2) (pc' := 665) rfl rfl (by decide +kernel) ?_
  refine e_next (pc' := 666) rfl rfl ?_
  refine e_sald (i + 2) (pc' := 667) rfl rfl h0 (nI_add i 2) (by omega) (by omega) ?_
  refine e_next (pc' := 668) rfl rfl ?_
  refine e_bipush (v := nI 32) (pc' := 670) rfl rfl (by decide +kernel) ?_
  refine e_next (pc' := 671) rfl rfl ?_
  refine e_next (pc' := 672) rfl rfl ?_
  refine e_next (pc' := 674) rfl rfl ?_
  refine e_iconst (v := nI 3) (pc' := 675) rfl rfl (by decide +kernel) ?_
  refine e_next (pc' := 676) rfl rfl ?_
  refine e_sald (i + 3) (pc' := 677) rfl rfl h0 (nI_add i 3) (by omega) (by omega) ?_
  refine e_next (pc' := 678) rfl rfl ?_
  refine e_ldc2 (v := lN 4294967295) (pc' := 681) rfl rfl rfl ?_
  refine e_next (pc' := 682) rfl rfl ?_
  refine e_next (pc' := 683) rfl rfl ?_
  refine e_cgI (pc' := 686) rfl (e_sV (as := [_, _]) (fun _ => rfl) (Or.inl rfl) rfl (hsh.o rfl) rfl rfl (Nat.le_of_ble_eq_true rfl) (Nat.le_of_ble_eq_true rfl) rfl) ?_
  refine K d g I J _ hk (fun g1 I1 J1 hk1 F1 => ⟨_, rfl, ?_⟩)
  have hr1 := lw_mid hr ok F1
  have hsh1 : qSh g1 := hk1.1.1
  have e01 : I1 0 = I 0 := F1.1 0 (by omega)
  have h01 : g1.1 0 = some (110, L) := by rw [F1.2.1.2 0 (by omega)]; exact h0
  refine e_next (pc' := 687) rfl rfl ?_
  refine e_next (pc' := 688) rfl rfl ?_
  refine e_next (pc' := 690) rfl rfl ?_
  refine e_iconst (v := nI 1) (pc' := 691) rfl rfl (by decide +kernel) ?_
  refine e_next (pc' := 692) rfl rfl ?_
  refine e_sald (i + 1) (pc' := 693) rfl rfl h01 (nI_add i 1) (by omega) (by omega) ?_
  refine e_next (pc' := 694) rfl rfl ?_
  refine e_next (pc' := 696) rfl rfl ?_
  refine e_iconst (v := nI 2) (pc' := 697) rfl rfl (by decide +kernel) ?_
  refine e_next (pc' := 698) rfl rfl ?_
  refine e_sald (i + 2) (pc' := 699) rfl rfl h01 (nI_add i 2) (by omega) (by omega) ?_
  refine e_next (pc' := 700) rfl rfl ?_
  refine e_bipush (v := nI 32) (pc' := 702) rfl rfl (by decide +kernel) ?_
  refine e_next (pc' := 703) rfl rfl ?_
  refine e_next (pc' := 704) rfl rfl ?_
  refine e_next (pc' := 706) rfl rfl ?_
  refine e_iconst (v := nI 3) (pc' := 707) rfl rfl (by decide +kernel) ?_
  refine e_next (pc' := 708) rfl rfl ?_
  refine e_sald (i + 3) (pc' := 709) rfl rfl h01 (nI_add i 3) (by omega) (by omega) ?_
  refine e_next (pc' := 710) rfl rfl ?_
  refine e_ldc2 (v := lN 4294967295) (pc' := 713) rfl rfl rfl ?_
  refine e_next (pc' := 714) rfl rfl ?_
  refine e_next (pc' := 715) rfl rfl ?_
  rw [e01]
  refine e_cgI (pc' := 718) rfl (e_sV (as := [_, _]) (fun _ => rfl) (Or.inl rfl) rfl (hsh1.o rfl) rfl rfl (Nat.le_of_ble_eq_true rfl) (Nat.le_of_ble_eq_true rfl) rfl) ?_
  refine R d g1 I1 J1 _ hsh1 hr1 (fun I2 J2 hr2 F2 => ⟨_, rfl, ?_⟩)
  refine e_icmp (v = v) (pc' := 721) rfl rfl e_d (fun _ => ?_) (fun hc => absurd rfl hc)
  have z := lw_fin0 h0 h120 hk1 F1 hr2 F2 ok'
  exact k g1 I2 J2 w' z.1 z.2
theorem lw_status (hI : lwI L w g I) (hL : i + 7 ≤ L) (h31 : L < 2 ^ 30) (k : ∀ g' I' J' w', lwI L w' g' I' → lwF g g' I I' → qev (d + 91) 270 (1330, [.ref 0, .ref 4, .ref 105, .ref 119, .int (nI i), w5, w6], [], g', I', J') Q) : qev (d + 91) 270 (723, [.ref 0, .ref 4, .ref 105, .ref 119, .int (nI i), w5, w6], [], g, I, J) Q := by
  obtain ⟨hk, hr, ok, h0⟩ := hI
  obtain ⟨t, p, M, s, hs, im, sc, rf⟩ := w
  have hsh : qSh g := hk.1.1
  have h120 : 120 ≤ g.2.2.1 := hk.1.2.1
  obtain ⟨v, w', ok', K, R⟩ := c_status (t := t) (rf := rf) (x1 := I 0 (i + 1)) ok
  refine e_next (pc' := 724) rfl rfl ?_
  refine e_next (pc' := 725) rfl rfl ?_
  refine e_next (pc' := 727) rfl rfl ?_
  refine e_iconst (v := nI 1) (pc' := 728) rfl rfl (by decide +kernel) ?_
  refine e_next (pc' := 729) rfl rfl ?_
  refine e_sald (i + 1) (pc' := 730) rfl rfl h0 (nI_add i 1) (by omega) (by omega) ?_
  refine e_cgI (pc' := 733) rfl (e_sV (as := [_]) (fun _ => rfl) (Or.inl rfl) rfl (hsh.o rfl) rfl rfl (Nat.le_of_ble_eq_true rfl) (Nat.le_of_ble_eq_true rfl) rfl) ?_
  refine K d g I J _ hk (fun g1 I1 J1 hk1 F1 => ⟨_, rfl, ?_⟩)
  have hr1 := lw_mid hr ok F1
  have hsh1 : qSh g1 := hk1.1.1
  have e01 : I1 0 = I 0 := F1.1 0 (by omega)
  have h01 : g1.1 0 = some (110, L) := by rw [F1.2.1.2 0 (by omega)]; exact h0
  refine e_next (pc' := 734) rfl rfl ?_
  refine e_next (pc' := 735) rfl rfl ?_
  refine e_next (pc' := 737) rfl rfl ?_
  refine e_iconst (v := nI 1) (pc' := 738) rfl rfl (by decide +kernel) ?_
  refine e_next (pc' := 739) rfl rfl ?_
  refine e_sald (i + 1) (pc' := 740) rfl rfl h01 (nI_add i 1) (by omega) (by omega) ?_
  rw [e01]
  refine e_cgI (pc' := 743) rfl (e_sV (as := [_]) (fun _ => rfl) (Or.inl rfl) rfl (hsh1.o rfl) rfl rfl (Nat.le_of_ble_eq_true rfl) (Nat.le_of_ble_eq_true rfl) rfl) ?_
  refine R d g1 I1 J1 _ hsh1 hr1 (fun I2 J2 hr2 F2 => ⟨_, rfl, ?_⟩)
  refine e_icmp (v = v) (pc' := 746) rfl rfl e_d (fun _ => ?_) (fun hc => absurd rfl hc)
  have z := lw_fin0 h0 h120 hk1 F1 hr2 F2 ok'
  exact k g1 I2 J2 w' z.1 z.2
theorem lw_undo (hI : lwI L w g I) (hL : i + 7 ≤ L) (h31 : L < 2 ^ 30) (k : ∀ g' I' J' w', lwI L w' g' I' → lwF g g' I I' → qev (d + 91) 270 (1330, [.ref 0, .ref 4, .ref 105, .ref 119, .int (nI i), w5, w6], [], g', I', J') Q) : qev (d + 91) 270 (748, [.ref 0, .ref 4, .ref 105, .ref 119, .int (nI i), w5, w6], [], g, I, J) Q := by
  obtain ⟨hk, hr, ok, h0⟩ := hI
  obtain ⟨t, p, M, s, hs, im, sc, rf⟩ := w
  have hsh : qSh g := hk.1.1
  have h120 : 120 ≤ g.2.2.1 := hk.1.2.1
  obtain ⟨v, w', ok', K, R⟩ := c_undo (t := t) (rf := rf) ok
  refine e_next (pc' := 749) rfl rfl ?_
  refine e_cgI (pc' := 752) rfl (e_sV (as := []) (fun _ => rfl) (Or.inl rfl) rfl (hsh.o rfl) rfl rfl (Nat.le_of_ble_eq_true rfl) (Nat.le_of_ble_eq_true rfl) rfl) ?_
  refine K d g I J _ hk (fun g1 I1 J1 hk1 F1 => ⟨_, rfl, ?_⟩)
  have hr1 := lw_mid hr ok F1
  have hsh1 : qSh g1 := hk1.1.1
  have e01 : I1 0 = I 0 := F1.1 0 (by omega)
  have h01 : g1.1 0 = some (110, L) := by rw [F1.2.1.2 0 (by omega)]; exact h0
  refine e_next (pc' := 753) rfl rfl ?_
  refine e_cgI (pc' := 756) rfl (e_sV (as := []) (fun _ => rfl) (Or.inl rfl) rfl (hsh1.o rfl) rfl rfl (Nat.le_of_ble_eq_true rfl) (Nat.le_of_ble_eq_true rfl) rfl) ?_
  refine R d g1 I1 J1 _ hsh1 hr1 (fun I2 J2 hr2 F2 => ⟨_, rfl, ?_⟩)
  refine e_icmp (v = v) (pc' := 759) rfl rfl e_d (fun _ => ?_) (fun hc => absurd rfl hc)
  have z := lw_fin0 h0 h120 hk1 F1 hr2 F2 ok'
  exact k g1 I2 J2 w' z.1 z.2
theorem lw_log (hI : lwI L w g I) (hL : i + 7 ≤ L) (h31 : L < 2 ^ 30) (k : ∀ g' I' J' w', lwI L w' g' I' → lwF g g' I I' → qev (d + 91) 270 (1330, [.ref 0, .ref 4, .ref 105, .ref 119, .int (nI i), w5, w6], [], g', I', J') Q) : qev (d + 91) 270 (761, [.ref 0, .ref 4, .ref 105, .ref 119, .int (nI i), w5, w6], [], g, I, J) Q := by
  obtain ⟨hk, hr, ok, h0⟩ := hI
  obtain ⟨t, p, M, s, hs, im, sc, rf⟩ := w
  have hsh : qSh g := hk.1.1
  have h120 : 120 ≤ g.2.2.1 := hk.1.2.1
  obtain ⟨v, w', ok', K, R⟩ := c_log (t := t) (rf := rf) (x1 := I 0 (i + 1)) (x2 := I 0 (i + 2)) ok
  refine e_next (pc' := 762) rfl rfl ?_
  refine e_next (pc' := 763) rfl rfl ?_
  refine e_next (pc' := 765) rfl rfl ?_
  refine e_iconst (v := nI 1) (pc' := 766) rfl rfl (by decide +kernel) ?_
  refine e_next (pc' := 767) rfl rfl ?_
  refine e_sald (i + 1) (pc' := 768) rfl rfl h0 (nI_add i 1) (by omega) (by omega) ?_
  refine e_next (pc' := 769) rfl rfl ?_
  refine e_next (pc' := 771) rfl rfl ?_
  refine e_iconst (v := nI 2) (pc' := 772) rfl rfl (by decide +kernel) ?_
  refine e_next (pc' := 773) rfl rfl ?_
  refine e_sald (i + 2) (pc' := 774) rfl rfl h0 (nI_add i 2) (by omega) (by omega) ?_
  refine e_cgI (pc' := 777) rfl (e_sV (as := [_, _]) (fun _ => rfl) (Or.inl rfl) rfl (hsh.o rfl) rfl rfl (Nat.le_of_ble_eq_true rfl) (Nat.le_of_ble_eq_true rfl) rfl) ?_
  refine K d g I J _ hk (fun g1 I1 J1 hk1 F1 => ⟨_, rfl, ?_⟩)
  have hr1 := lw_mid hr ok F1
  have hsh1 : qSh g1 := hk1.1.1
  have e01 : I1 0 = I 0 := F1.1 0 (by omega)
  have h01 : g1.1 0 = some (110, L) := by rw [F1.2.1.2 0 (by omega)]; exact h0
  refine e_next (pc' := 778) rfl rfl ?_
  refine e_next (pc' := 779) rfl rfl ?_
  refine e_next (pc' := 781) rfl rfl ?_
  refine e_iconst (v := nI 1) (pc' := 782) rfl rfl (by decide +kernel) ?_
  refine e_next (pc' := 783) rfl rfl ?_
  refine e_sald (i + 1) (pc' := 784) rfl rfl h01 (nI_add i 1) (by omega) (by omega) ?_
  refine e_next (pc' := 785) rfl rfl ?_
  refine e_next (pc' := 787) rfl rfl ?_
  refine e_iconst (v := nI 2) (pc' := 788) rfl rfl (by decide +kernel) ?_
  refine e_next (pc' := 789) rfl rfl ?_
  refine e_sald (i + 2) (pc' := 790) rfl rfl h01 (nI_add i 2) (by omega) (by omega) ?_
  rw [e01]
  refine e_cgI (pc' := 793) rfl (e_sV (as := [_, _]) (fun _ => rfl) (Or.inl rfl) rfl (hsh1.o rfl) rfl rfl (Nat.le_of_ble_eq_true rfl) (Nat.le_of_ble_eq_true rfl) rfl) ?_
  refine R d g1 I1 J1 _ hsh1 hr1 (fun I2 J2 hr2 F2 => ⟨_, rfl, ?_⟩)
  refine e_icmp (v = v) (pc' := 796) rfl rfl e_d (fun _ => ?_) (fun hc => absurd rfl hc)
  have z := lw_fin0 h0 h120 hk1 F1 hr2 F2 ok'
  exact k g1 I2 J2 w' z.1 z.2
theorem lw_alike (hI : lwI L w g I) (hL : i + 7 ≤ L) (h31 : L < 2 ^ 30) (k : ∀ g' I' J' w', lwI L w' g' I' → lwF g g' I I' → qev (d + 91) 270 (1330, [.ref 0, .ref 4, .ref 105, .ref 119, .int (nI i), w5, w6], [], g', I', J') Q) : qev (d + 91) 270 (798, [.ref 0, .ref 4, .ref 105, .ref 119, .int (nI i), w5, w6], [], g, I, J) Q := by
  obtain ⟨hk, hr, ok, h0⟩ := hI
  obtain ⟨t, p, M, s, hs, im, sc, rf⟩ := w
  have hsh : qSh g := hk.1.1
  have h120 : 120 ≤ g.2.2.1 := hk.1.2.1
  obtain ⟨v, w', ok', K, R⟩ := c_alike (t := t) (rf := rf) (x1 := I 0 (i + 1)) (x2 := I 0 (i + 2)) ok
  refine e_next (pc' := 799) rfl rfl ?_
  refine e_next (pc' := 800) rfl rfl ?_
  refine e_next (pc' := 802) rfl rfl ?_
  refine e_iconst (v := nI 1) (pc' := 803) rfl rfl (by decide +kernel) ?_
  refine e_next (pc' := 804) rfl rfl ?_
  refine e_sald (i + 1) (pc' := 805) rfl rfl h0 (nI_add i 1) (by omega) (by omega) ?_
  refine e_next (pc' := 806) rfl rfl ?_
  refine e_next (pc' := 808) rfl rfl ?_
  refine e_iconst (v := nI 2) (pc' := 809) rfl rfl (by decide +kernel) ?_
  refine e_next (pc' := 810) rfl rfl ?_
  refine e_sald (i + 2) (pc' := 811) rfl rfl h0 (nI_add i 2) (by omega) (by omega) ?_
  refine e_cgI (pc' := 814) rfl (e_sV (as := [_, _]) (fun _ => rfl) (Or.inl rfl) rfl (hsh.o rfl) rfl rfl (Nat.le_of_ble_eq_true rfl) (Nat.le_of_ble_eq_true rfl) rfl) ?_
  refine K d g I J _ hk (fun g1 I1 J1 hk1 F1 => ⟨_, rfl, ?_⟩)
  have hr1 := lw_mid hr ok F1
  have hsh1 : qSh g1 := hk1.1.1
  have e01 : I1 0 = I 0 := F1.1 0 (by omega)
  have h01 : g1.1 0 = some (110, L) := by rw [F1.2.1.2 0 (by omega)]; exact h0
  refine e_next (pc' := 815) rfl rfl ?_
  refine e_next (pc' := 816) rfl rfl ?_
  refine e_next (pc' := 818) rfl rfl ?_
  refine e_iconst (v := nI 1) (pc' := 819) rfl rfl (by decide +kernel) ?_
  refine e_next (pc' := 820) rfl rfl ?_
  refine e_sald (i + 1) (pc' := 821) rfl rfl h01 (nI_add i 1) (by omega) (by omega) ?_
  refine e_next (pc' := 822) rfl rfl ?_
  refine e_next (pc' := 824) rfl rfl ?_
  refine e_iconst (v := nI 2) (pc' := 825) rfl rfl (by decide +kernel) ?_
  refine e_next (pc' := 826) rfl rfl ?_
  refine e_sald (i + 2) (pc' := 827) rfl rfl h01 (nI_add i 2) (by omega) (by omega) ?_
  rw [e01]
  refine e_cgI (pc' := 830) rfl (e_sV (as := [_, _]) (fun _ => rfl) (Or.inl rfl) rfl (hsh1.o rfl) rfl rfl (Nat.le_of_ble_eq_true rfl) (Nat.le_of_ble_eq_true rfl) rfl) ?_
  refine R d g1 I1 J1 _ hsh1 hr1 (fun I2 J2 hr2 F2 => ⟨_, rfl, ?_⟩)
  refine e_icmp (v = v) (pc' := 833) rfl rfl e_d (fun _ => ?_) (fun hc => absurd rfl hc)
  have z := lw_fin0 h0 h120 hk1 F1 hr2 F2 ok'
  exact k g1 I2 J2 w' z.1 z.2
theorem lw_value (hI : lwI L w g I) (hL : i + 7 ≤ L) (h31 : L < 2 ^ 30) (k : ∀ g' I' J' w', lwI L w' g' I' → lwF g g' I I' → qev (d + 91) 270 (1330, [.ref 0, .ref 4, .ref 105, .ref 119, .int (nI i), w5, w6], [], g', I', J') Q) : qev (d + 91) 270 (835, [.ref 0, .ref 4, .ref 105, .ref 119, .int (nI i), w5, w6], [], g, I, J) Q := by
  obtain ⟨hk, hr, ok, h0⟩ := hI
  obtain ⟨t, p, M, s, hs, im, sc, rf⟩ := w
  have hsh : qSh g := hk.1.1
  have h120 : 120 ≤ g.2.2.1 := hk.1.2.1
  obtain ⟨v, w', ok', K, R⟩ := c_value (t := t) (rf := rf) (x1 := I 0 (i + 1)) (x2 := I 0 (i + 2)) ok
  refine e_next (pc' := 836) rfl rfl ?_
  refine e_next (pc' := 837) rfl rfl ?_
  refine e_next (pc' := 839) rfl rfl ?_
  refine e_iconst (v := nI 1) (pc' := 840) rfl rfl (by decide +kernel) ?_
  refine e_next (pc' := 841) rfl rfl ?_
  refine e_sald (i + 1) (pc' := 842) rfl rfl h0 (nI_add i 1) (by omega) (by omega) ?_
  refine e_next (pc' := 843) rfl rfl ?_
  refine e_next (pc' := 845) rfl rfl ?_
  refine e_iconst (v := nI 2) (pc' := 846) rfl rfl (by decide +kernel) ?_
  refine e_next (pc' := 847) rfl rfl ?_
  refine e_sald (i + 2) (pc' := 848) rfl rfl h0 (nI_add i 2) (by omega) (by omega) ?_
  refine e_cgI (pc' := 851) rfl (e_sV (as := [_, _]) (fun _ => rfl) (Or.inl rfl) rfl (hsh.o rfl) rfl rfl (Nat.le_of_ble_eq_true rfl) (Nat.le_of_ble_eq_true rfl) rfl) ?_
  refine K d g I J _ hk (fun g1 I1 J1 hk1 F1 => ⟨_, rfl, ?_⟩)
  have hr1 := lw_mid hr ok F1
  have hsh1 : qSh g1 := hk1.1.1
  have e01 : I1 0 = I 0 := F1.1 0 (by omega)
  have h01 : g1.1 0 = some (110, L) := by rw [F1.2.1.2 0 (by omega)]; exact h0
  refine e_next (pc' := 852) rfl rfl ?_
  refine e_next (pc' := 853) rfl rfl ?_
  refine e_next (pc' := 855) rfl rfl ?_
  refine e_iconst (v := nI 1) (pc' := 856) rfl rfl (by decide +kernel) ?_
  refine e_next (pc' := 857) rfl rfl ?_
  refine e_sald (i + 1) (pc' := 858) rfl rfl h01 (nI_add i 1) (by omega) (by omega) ?_
  refine e_next (pc' := 859) rfl rfl ?_
  refine e_next (pc' := 861) rfl rfl ?_
  refine e_iconst (v := nI 2) (pc' := 862) rfl rfl (by decide +kernel) ?_
  refine e_next (pc' := 863) rfl rfl ?_
  refine e_sald (i + 2) (pc' := 864) rfl rfl h01 (nI_add i 2) (by omega) (by omega) ?_
  rw [e01]
  refine e_cgI (pc' := 867) rfl (e_sV (as := [_, _]) (fun _ => rfl) (Or.inl rfl) rfl (hsh1.o rfl) rfl rfl (Nat.le_of_ble_eq_true rfl) (Nat.le_of_ble_eq_true rfl) rfl) ?_
  refine R d g1 I1 J1 _ hsh1 hr1 (fun I2 J2 hr2 F2 => ⟨_, rfl, ?_⟩)
  refine e_icmp (v = v) (pc' := 870) rfl rfl e_d (fun _ => ?_) (fun hc => absurd rfl hc)
  have z := lw_fin0 h0 h120 hk1 F1 hr2 F2 ok'
  exact k g1 I2 J2 w' z.1 z.2
theorem lw_newton (hI : lwI L w g I) (hL : i + 7 ≤ L) (h31 : L < 2 ^ 30) (k : ∀ g' I' J' w', lwI L w' g' I' → lwF g g' I I' → qev (d + 91) 270 (1330, [.ref 0, .ref 4, .ref 105, .ref 119, .int (nI i), w5, w6], [], g', I', J') Q) : qev (d + 91) 270 (872, [.ref 0, .ref 4, .ref 105, .ref 119, .int (nI i), w5, w6], [], g, I, J) Q := by
  obtain ⟨hk, hr, ok, h0⟩ := hI
  obtain ⟨t, p, M, s, hs, im, sc, rf⟩ := w
  have hsh : qSh g := hk.1.1
  have h120 : 120 ≤ g.2.2.1 := hk.1.2.1
  obtain ⟨v, w', ok', K, R⟩ := c_newton (t := t) (rf := rf) (x1 := I 0 (i + 1)) (x2 := I 0 (i + 2)) (x3 := I 0 (i + 3)) ok
  refine e_next (pc' := 873) rfl rfl ?_
  refine e_next (pc' := 874) rfl rfl ?_
  refine e_next (pc' := 876) rfl rfl ?_
  refine e_iconst (v := nI 1) (pc' := 877) rfl rfl (by decide +kernel) ?_
  refine e_next (pc' := 878) rfl rfl ?_
  refine e_sald (i + 1) (pc' := 879) rfl rfl h0 (nI_add i 1) (by omega) (by omega) ?_
  refine e_next (pc' := 880) rfl rfl ?_
  refine e_next (pc' := 882) rfl rfl ?_
  refine e_iconst (v := nI 2) (pc' := 883) rfl rfl (by decide +kernel) ?_
  refine e_next (pc' := 884) rfl rfl ?_
  refine e_sald (i + 2) (pc' := 885) rfl rfl h0 (nI_add i 2) (by omega) (by omega) ?_
  refine e_next (pc' := 886) rfl rfl ?_
  refine e_next (pc' := 888) rfl rfl ?_
  refine e_iconst (v := nI 3) (pc' := 889) rfl rfl (by decide +kernel) ?_
  refine e_next (pc' := 890) rfl rfl ?_
  refine e_sald (i + 3) (pc' := 891) rfl rfl h0 (nI_add i 3) (by omega) (by omega) ?_
  refine e_cgI (pc' := 894) rfl (e_sV (as := [_, _, _]) (fun _ => rfl) (Or.inl rfl) rfl (hsh.o rfl) rfl rfl (Nat.le_of_ble_eq_true rfl) (Nat.le_of_ble_eq_true rfl) rfl) ?_
  refine K d g I J _ hk (fun g1 I1 J1 hk1 F1 => ⟨_, rfl, ?_⟩)
  have hr1 := lw_mid hr ok F1
  have hsh1 : qSh g1 := hk1.1.1
  have e01 : I1 0 = I 0 := F1.1 0 (by omega)
  have h01 : g1.1 0 = some (110, L) := by rw [F1.2.1.2 0 (by omega)]; exact h0
  refine e_next (pc' := 895) rfl rfl ?_
  refine e_next (pc' := 896) rfl rfl ?_
  refine e_next (pc' := 898) rfl rfl ?_
  refine e_iconst (v := nI 1) (pc' := 899) rfl rfl (by decide +kernel) ?_
  refine e_next (pc' := 900) rfl rfl ?_
  refine e_sald (i + 1) (pc' := 901) rfl rfl h01 (nI_add i 1) (by omega) (by omega) ?_
  refine e_next (pc' := 902) rfl rfl ?_
  refine e_next (pc' := 904) rfl rfl ?_
  refine e_iconst (v := nI 2) (pc' := 905) rfl rfl (by decide +kernel) ?_
  refine e_next (pc' := 906) rfl rfl ?_
  refine e_sald (i + 2) (pc' := 907) rfl rfl h01 (nI_add i 2) (by omega) (by omega) ?_
  refine e_next (pc' := 908) rfl rfl ?_
  refine e_next (pc' := 910) rfl rfl ?_
  refine e_iconst (v := nI 3) (pc' := 911) rfl rfl (by decide +kernel) ?_
  refine e_next (pc' := 912) rfl rfl ?_
  refine e_sald (i + 3) (pc' := 913) rfl rfl h01 (nI_add i 3) (by omega) (by omega) ?_
  rw [e01]
  refine e_cgI (pc' := 916) rfl (e_sV (as := [_, _, _]) (fun _ => rfl) (Or.inl rfl) rfl (hsh1.o rfl) rfl rfl (Nat.le_of_ble_eq_true rfl) (Nat.le_of_ble_eq_true rfl) rfl) ?_
  refine R d g1 I1 J1 _ hsh1 hr1 (fun I2 J2 hr2 F2 => ⟨_, rfl, ?_⟩)
  refine e_icmp (v = v) (pc' := 919) rfl rfl e_d (fun _ => ?_) (fun hc => absurd rfl hc)
  have z := lw_fin0 h0 h120 hk1 F1 hr2 F2 ok'
  exact k g1 I2 J2 w' z.1 z.2
theorem lw_solve (hI : lwI L w g I) (hL : i + 7 ≤ L) (h31 : L < 2 ^ 30) (k : ∀ g' I' J' w', lwI L w' g' I' → lwF g g' I I' → qev (d + 91) 270 (1330, [.ref 0, .ref 4, .ref 105, .ref 119, .int (nI i), w5, w6], [], g', I', J') Q) : qev (d + 91) 270 (921, [.ref 0, .ref 4, .ref 105, .ref 119, .int (nI i), w5, w6], [], g, I, J) Q := by
  obtain ⟨hk, hr, ok, h0⟩ := hI
  obtain ⟨t, p, M, s, hs, im, sc, rf⟩ := w
  have hsh : qSh g := hk.1.1
  have h120 : 120 ≤ g.2.2.1 := hk.1.2.1
  obtain ⟨v, w', ok', K, R⟩ := c_solve (t := t) (rf := rf) (x1 := I 0 (i + 1)) (x2 := I 0 (i + 2)) (x3 := I 0 (i + 3)) (x4 := I 0 (i + 4)) (x5 := I 0 (i + 5)) (x6 := I 0 (i + 6)) ok
  refine e_next (pc' := 922) rfl rfl ?_
  refine e_next (pc' := 923) rfl rfl ?_
  refine e_next (pc' := 925) rfl rfl ?_
  refine e_iconst (v := nI 1) (pc' := 926) rfl rfl (by decide +kernel) ?_
  refine e_next (pc' := 927) rfl rfl ?_
  refine e_sald (i + 1) (pc' := 928) rfl rfl h0 (nI_add i 1) (by omega) (by omega) ?_
  refine e_next (pc' := 929) rfl rfl ?_
  refine e_next (pc' := 931) rfl rfl ?_
  refine e_iconst (v := nI 2) (pc' := 932) rfl rfl (by decide +kernel) ?_
  refine e_next (pc' := 933) rfl rfl ?_
  refine e_sald (i + 2) (pc' := 934) rfl rfl h0 (nI_add i 2) (by omega) (by omega) ?_
  refine e_next (pc' := 935) rfl rfl ?_
  refine e_next (pc' := 937) rfl rfl ?_
  refine e_iconst (v := nI 3) (pc' := 938) rfl rfl (by decide +kernel) ?_
  refine e_next (pc' := 939) rfl rfl ?_
  refine e_sald (i + 3) (pc' := 940) rfl rfl h0 (nI_add i 3) (by omega) (by omega) ?_
  refine e_next (pc' := 941) rfl rfl ?_
  refine e_next (pc' := 943) rfl rfl ?_
  refine e_iconst (v := nI 4) (pc' := 944) rfl rfl (by decide +kernel) ?_
  refine e_next (pc' := 945) rfl rfl ?_
  refine e_sald (i + 4) (pc' := 946) rfl rfl h0 (nI_add i 4) (by omega) (by omega) ?_
  refine e_next (pc' := 947) rfl rfl ?_
  refine e_next (pc' := 949) rfl rfl ?_
  refine e_iconst (v := nI 5) (pc' := 950) rfl rfl (by decide +kernel) ?_
  refine e_next (pc' := 951) rfl rfl ?_
  refine e_sald (i + 5) (pc' := 952) rfl rfl h0 (nI_add i 5) (by omega) (by omega) ?_
  refine e_next (pc' := 953) rfl rfl ?_
  refine e_next (pc' := 955) rfl rfl ?_
  refine e_bipush (v := nI 6) (pc' := 957) rfl rfl (by decide +kernel) ?_
  refine e_next (pc' := 958) rfl rfl ?_
  refine e_sald (i + 6) (pc' := 959) rfl rfl h0 (nI_add i 6) (by omega) (by omega) ?_
  refine e_cgI (pc' := 962) rfl (e_sV (as := [_, _, _, _, _, _]) (fun _ => rfl) (Or.inl rfl) rfl (hsh.o rfl) rfl rfl (Nat.le_of_ble_eq_true rfl) (Nat.le_of_ble_eq_true rfl) rfl) ?_
  refine K d g I J _ hk (fun g1 I1 J1 hk1 F1 => ⟨_, rfl, ?_⟩)
  have hr1 := lw_mid hr ok F1
  have hsh1 : qSh g1 := hk1.1.1
  have e01 : I1 0 = I 0 := F1.1 0 (by omega)
  have h01 : g1.1 0 = some (110, L) := by rw [F1.2.1.2 0 (by omega)]; exact h0
  refine e_next (pc' := 963) rfl rfl ?_
  refine e_next (pc' := 964) rfl rfl ?_
  refine e_next (pc' := 966) rfl rfl ?_
  refine e_iconst (v := nI 1) (pc' := 967) rfl rfl (by decide +kernel) ?_
  refine e_next (pc' := 968) rfl rfl ?_
  refine e_sald (i + 1) (pc' := 969) rfl rfl h01 (nI_add i 1) (by omega) (by omega) ?_
  refine e_next (pc' := 970) rfl rfl ?_
  refine e_next (pc' := 972) rfl rfl ?_
  refine e_iconst (v := nI 2) (pc' := 973) rfl rfl (by decide +kernel) ?_
  refine e_next (pc' := 974) rfl rfl ?_
  refine e_sald (i + 2) (pc' := 975) rfl rfl h01 (nI_add i 2) (by omega) (by omega) ?_
  refine e_next (pc' := 976) rfl rfl ?_
  refine e_next (pc' := 978) rfl rfl ?_
  refine e_iconst (v := nI 3) (pc' := 979) rfl rfl (by decide +kernel) ?_
  refine e_next (pc' := 980) rfl rfl ?_
  refine e_sald (i + 3) (pc' := 981) rfl rfl h01 (nI_add i 3) (by omega) (by omega) ?_
  refine e_next (pc' := 982) rfl rfl ?_
  refine e_next (pc' := 984) rfl rfl ?_
  refine e_iconst (v := nI 4) (pc' := 985) rfl rfl (by decide +kernel) ?_
  refine e_next (pc' := 986) rfl rfl ?_
  refine e_sald (i + 4) (pc' := 987) rfl rfl h01 (nI_add i 4) (by omega) (by omega) ?_
  refine e_next (pc' := 988) rfl rfl ?_
  refine e_next (pc' := 990) rfl rfl ?_
  refine e_iconst (v := nI 5) (pc' := 991) rfl rfl (by decide +kernel) ?_
  refine e_next (pc' := 992) rfl rfl ?_
  refine e_sald (i + 5) (pc' := 993) rfl rfl h01 (nI_add i 5) (by omega) (by omega) ?_
  refine e_next (pc' := 994) rfl rfl ?_
  refine e_next (pc' := 996) rfl rfl ?_
  refine e_bipush (v := nI 6) (pc' := 998) rfl rfl (by decide +kernel) ?_
  refine e_next (pc' := 999) rfl rfl ?_
  refine e_sald (i + 6) (pc' := 1000) rfl rfl h01 (nI_add i 6) (by omega) (by omega) ?_
  rw [e01]
  refine e_cgI (pc' := 1003) rfl (e_sV (as := [_, _, _, _, _, _]) (fun _ => rfl) (Or.inl rfl) rfl (hsh1.o rfl) rfl rfl (Nat.le_of_ble_eq_true rfl) (Nat.le_of_ble_eq_true rfl) rfl) ?_
  refine R d g1 I1 J1 _ hsh1 hr1 (fun I2 J2 hr2 F2 => ⟨_, rfl, ?_⟩)
  refine e_icmp (v = v) (pc' := 1006) rfl rfl e_d (fun _ => ?_) (fun hc => absurd rfl hc)
  have z := lw_fin0 h0 h120 hk1 F1 hr2 F2 ok'
  exact k g1 I2 J2 w' z.1 z.2
theorem lw_starts (hI : lwI L w g I) (hL : i + 7 ≤ L) (h31 : L < 2 ^ 30) (k : ∀ g' I' J' w', lwI L w' g' I' → lwF g g' I I' → qev (d + 91) 270 (1330, [.ref 0, .ref 4, .ref 105, .ref 119, .int (nI i), w5, w6], [], g', I', J') Q) : qev (d + 91) 270 (1008, [.ref 0, .ref 4, .ref 105, .ref 119, .int (nI i), w5, w6], [], g, I, J) Q := by
  obtain ⟨hk, hr, ok, h0⟩ := hI
  obtain ⟨t, p, M, s, hs, im, sc, rf⟩ := w
  have hsh : qSh g := hk.1.1
  have h120 : 120 ≤ g.2.2.1 := hk.1.2.1
  obtain ⟨v, w', ok', K, R⟩ := c_starts (t := t) (rf := rf) (x1 := I 0 (i + 1)) (x2 := I 0 (i + 2)) (x3 := I 0 (i + 3)) (x4 := I 0 (i + 4)) (x5 := I 0 (i + 5)) ok
  refine e_next (pc' := 1009) rfl rfl ?_
  refine e_next (pc' := 1010) rfl rfl ?_
  refine e_next (pc' := 1012) rfl rfl ?_
  refine e_iconst (v := nI 1) (pc' := 1013) rfl rfl (by decide +kernel) ?_
  refine e_next (pc' := 1014) rfl rfl ?_
  refine e_sald (i + 1) (pc' := 1015) rfl rfl h0 (nI_add i 1) (by omega) (by omega) ?_
  refine e_next (pc' := 1016) rfl rfl ?_
  refine e_next (pc' := 1018) rfl rfl ?_
  refine e_iconst (v := nI 2) (pc' := 1019) rfl rfl (by decide +kernel) ?_
  refine e_next (pc' := 1020) rfl rfl ?_
  refine e_sald (i + 2) (pc' := 1021) rfl rfl h0 (nI_add i 2) (by omega) (by omega) ?_
  refine e_next (pc' := 1022) rfl rfl ?_
  refine e_next (pc' := 1024) rfl rfl ?_
  refine e_iconst (v := nI 3) (pc' := 1025) rfl rfl (by decide +kernel) ?_
  refine e_next (pc' := 1026) rfl rfl ?_
  refine e_sald (i + 3) (pc' := 1027) rfl rfl h0 (nI_add i 3) (by omega) (by omega) ?_
  refine e_next (pc' := 1028) rfl rfl ?_
  refine e_next (pc' := 1030) rfl rfl ?_
  refine e_iconst (v := nI 4) (pc' := 1031) rfl rfl (by decide +kernel) ?_
  refine e_next (pc' := 1032) rfl rfl ?_
  refine e_sald (i + 4) (pc' := 1033) rfl rfl h0 (nI_add i 4) (by omega) (by omega) ?_
  refine e_next (pc' := 1034) rfl rfl ?_
  refine e_next (pc' := 1036) rfl rfl ?_
  refine e_iconst (v := nI 5) (pc' := 1037) rfl rfl (by decide +kernel) ?_
  refine e_next (pc' := 1038) rfl rfl ?_
  refine e_sald (i + 5) (pc' := 1039) rfl rfl h0 (nI_add i 5) (by omega) (by omega) ?_
  refine e_cgI (pc' := 1042) rfl (e_sV (as := [_, _, _, _, _]) (fun _ => rfl) (Or.inl rfl) rfl (hsh.o rfl) rfl rfl (Nat.le_of_ble_eq_true rfl) (Nat.le_of_ble_eq_true rfl) rfl) ?_
  refine K d g I J _ hk (fun g1 I1 J1 hk1 F1 => ⟨_, rfl, ?_⟩)
  have hr1 := lw_mid hr ok F1
  have hsh1 : qSh g1 := hk1.1.1
  have e01 : I1 0 = I 0 := F1.1 0 (by omega)
  have h01 : g1.1 0 = some (110, L) := by rw [F1.2.1.2 0 (by omega)]; exact h0
  refine e_next (pc' := 1043) rfl rfl ?_
  refine e_next (pc' := 1044) rfl rfl ?_
  refine e_next (pc' := 1046) rfl rfl ?_
  refine e_iconst (v := nI 1) (pc' := 1047) rfl rfl (by decide +kernel) ?_
  refine e_next (pc' := 1048) rfl rfl ?_
  refine e_sald (i + 1) (pc' := 1049) rfl rfl h01 (nI_add i 1) (by omega) (by omega) ?_
  refine e_next (pc' := 1050) rfl rfl ?_
  refine e_next (pc' := 1052) rfl rfl ?_
  refine e_iconst (v := nI 2) (pc' := 1053) rfl rfl (by decide +kernel) ?_
  refine e_next (pc' := 1054) rfl rfl ?_
  refine e_sald (i + 2) (pc' := 1055) rfl rfl h01 (nI_add i 2) (by omega) (by omega) ?_
  refine e_next (pc' := 1056) rfl rfl ?_
  refine e_next (pc' := 1058) rfl rfl ?_
  refine e_iconst (v := nI 3) (pc' := 1059) rfl rfl (by decide +kernel) ?_
  refine e_next (pc' := 1060) rfl rfl ?_
  refine e_sald (i + 3) (pc' := 1061) rfl rfl h01 (nI_add i 3) (by omega) (by omega) ?_
  refine e_next (pc' := 1062) rfl rfl ?_
  refine e_next (pc' := 1064) rfl rfl ?_
  refine e_iconst (v := nI 4) (pc' := 1065) rfl rfl (by decide +kernel) ?_
  refine e_next (pc' := 1066) rfl rfl ?_
  refine e_sald (i + 4) (pc' := 1067) rfl rfl h01 (nI_add i 4) (by omega) (by omega) ?_
  refine e_next (pc' := 1068) rfl rfl ?_
  refine e_next (pc' := 1070) rfl rfl ?_
  refine e_iconst (v := nI 5) (pc' := 1071) rfl rfl (by decide +kernel) ?_
  refine e_next (pc' := 1072) rfl rfl ?_
  refine e_sald (i + 5) (pc' := 1073) rfl rfl h01 (nI_add i 5) (by omega) (by omega) ?_
  rw [e01]
  refine e_cgI (pc' := 1076) rfl (e_sV (as := [_, _, _, _, _]) (fun _ => rfl) (Or.inl rfl) rfl (hsh1.o rfl) rfl rfl (Nat.le_of_ble_eq_true rfl) (Nat.le_of_ble_eq_true rfl) rfl) ?_
  refine R d g1 I1 J1 _ hsh1 hr1 (fun I2 J2 hr2 F2 => ⟨_, rfl, ?_⟩)
  refine e_icmp (v = v) (pc' := 1079) rfl rfl e_d (fun _ => ?_) (fun hc => absurd rfl hc)
  have z := lw_fin0 h0 h120 hk1 F1 hr2 F2 ok'
  exact k g1 I2 J2 w' z.1 z.2
theorem lw_recur (hI : lwI L w g I) (hL : i + 7 ≤ L) (h31 : L < 2 ^ 30) (k : ∀ g' I' J' w', lwI L w' g' I' → lwF g g' I I' → qev (d + 91) 270 (1330, [.ref 0, .ref 4, .ref 105, .ref 119, .int (nI i), w5, w6], [], g', I', J') Q) : qev (d + 91) 270 (1081, [.ref 0, .ref 4, .ref 105, .ref 119, .int (nI i), w5, w6], [], g, I, J) Q := by
  obtain ⟨hk, hr, ok, h0⟩ := hI
  obtain ⟨t, p, M, s, hs, im, sc, rf⟩ := w
  have hsh : qSh g := hk.1.1
  have h120 : 120 ≤ g.2.2.1 := hk.1.2.1
  obtain ⟨v, w', ok', K, R⟩ := c_recur (t := t) (rf := rf) (x1 := I 0 (i + 1)) (x2 := I 0 (i + 2)) ok
  refine e_next (pc' := 1082) rfl rfl ?_
  refine e_next (pc' := 1083) rfl rfl ?_
  refine e_next (pc' := 1085) rfl rfl ?_
  refine e_iconst (v := nI 1) (pc' := 1086) rfl rfl (by decide +kernel) ?_
  refine e_next (pc' := 1087) rfl rfl ?_
  refine e_sald (i + 1) (pc' := 1088) rfl rfl h0 (nI_add i 1) (by omega) (by omega) ?_
  refine e_next (pc' := 1089) rfl rfl ?_
  refine e_next (pc' := 1091) rfl rfl ?_
  refine e_iconst (v := nI 2) (pc' := 1092) rfl rfl (by decide +kernel) ?_
  refine e_next (pc' := 1093) rfl rfl ?_
  refine e_sald (i + 2) (pc' := 1094) rfl rfl h0 (nI_add i 2) (by omega) (by omega) ?_
  refine e_cgI (pc' := 1097) rfl (e_sV (as := [_, _]) (fun _ => rfl) (Or.inl rfl) rfl (hsh.o rfl) rfl rfl (Nat.le_of_ble_eq_true rfl) (Nat.le_of_ble_eq_true rfl) rfl) ?_
  refine K d g I J _ hk (fun g1 I1 J1 hk1 F1 => ⟨_, rfl, ?_⟩)
  have hr1 := lw_mid hr ok F1
  have hsh1 : qSh g1 := hk1.1.1
  have e01 : I1 0 = I 0 := F1.1 0 (by omega)
  have h01 : g1.1 0 = some (110, L) := by rw [F1.2.1.2 0 (by omega)]; exact h0
  refine e_next (pc' := 1098) rfl rfl ?_
  refine e_next (pc' := 1099) rfl rfl ?_
  refine e_next (pc' := 1101) rfl rfl ?_
  refine e_iconst (v := nI 1) (pc' := 1102) rfl rfl (by decide +kernel) ?_
  refine e_next (pc' := 1103) rfl rfl ?_
  refine e_sald (i + 1) (pc' := 1104) rfl rfl h01 (nI_add i 1) (by omega) (by omega) ?_
  refine e_next (pc' := 1105) rfl rfl ?_
  refine e_next (pc' := 1107) rfl rfl ?_
  refine e_iconst (v := nI 2) (pc' := 1108) rfl rfl (by decide +kernel) ?_
  refine e_next (pc' := 1109) rfl rfl ?_
  refine e_sald (i + 2) (pc' := 1110) rfl rfl h01 (nI_add i 2) (by omega) (by omega) ?_
  rw [e01]
  refine e_cgI (pc' := 1113) rfl (e_sV (as := [_, _]) (fun _ => rfl) (Or.inl rfl) rfl (hsh1.o rfl) rfl rfl (Nat.le_of_ble_eq_true rfl) (Nat.le_of_ble_eq_true rfl) rfl) ?_
  refine R d g1 I1 J1 _ hsh1 hr1 (fun I2 J2 hr2 F2 => ⟨_, rfl, ?_⟩)
  refine e_icmp (v = v) (pc' := 1116) rfl rfl e_d (fun _ => ?_) (fun hc => absurd rfl hc)
  have z := lw_fin0 h0 h120 hk1 F1 hr2 F2 ok'
  exact k g1 I2 J2 w' z.1 z.2
theorem lw_one (hI : lwI L w g I) (hL : i + 7 ≤ L) (h31 : L < 2 ^ 30) (k : ∀ g' I' J' w', lwI L w' g' I' → lwF g g' I I' → qev (d + 91) 270 (1330, [.ref 0, .ref 4, .ref 105, .ref 119, .int (nI i), w5, w6], [], g', I', J') Q) : qev (d + 91) 270 (1118, [.ref 0, .ref 4, .ref 105, .ref 119, .int (nI i), w5, w6], [], g, I, J) Q := by
  obtain ⟨hk, hr, ok, h0⟩ := hI
  obtain ⟨t, p, M, s, hs, im, sc, rf⟩ := w
  have hsh : qSh g := hk.1.1
  have h120 : 120 ≤ g.2.2.1 := hk.1.2.1
  obtain ⟨v, w', ok', K, R⟩ := c_one (t := t) (rf := rf) (x1 := I 0 (i + 1)) ok
  refine e_next (pc' := 1119) rfl rfl ?_
  refine e_next (pc' := 1120) rfl rfl ?_
  refine e_next (pc' := 1122) rfl rfl ?_
  refine e_iconst (v := nI 1) (pc' := 1123) rfl rfl (by decide +kernel) ?_
  refine e_next (pc' := 1124) rfl rfl ?_
  refine e_sald (i + 1) (pc' := 1125) rfl rfl h0 (nI_add i 1) (by omega) (by omega) ?_
  refine e_cgI (pc' := 1128) rfl (e_sV (as := [_]) (fun _ => rfl) (Or.inl rfl) rfl (hsh.o rfl) rfl rfl (Nat.le_of_ble_eq_true rfl) (Nat.le_of_ble_eq_true rfl) rfl) ?_
  refine K d g I J _ hk (fun g1 I1 J1 hk1 F1 => ⟨_, rfl, ?_⟩)
  have hr1 := lw_mid hr ok F1
  have hsh1 : qSh g1 := hk1.1.1
  have e01 : I1 0 = I 0 := F1.1 0 (by omega)
  have h01 : g1.1 0 = some (110, L) := by rw [F1.2.1.2 0 (by omega)]; exact h0
  refine e_next (pc' := 1129) rfl rfl ?_
  refine e_next (pc' := 1130) rfl rfl ?_
  refine e_next (pc' := 1132) rfl rfl ?_
  refine e_iconst (v := nI 1) (pc' := 1133) rfl rfl (by decide +kernel) ?_
  refine e_next (pc' := 1134) rfl rfl ?_
  refine e_sald (i + 1) (pc' := 1135) rfl rfl h01 (nI_add i 1) (by omega) (by omega) ?_
  rw [e01]
  refine e_cgI (pc' := 1138) rfl (e_sV (as := [_]) (fun _ => rfl) (Or.inl rfl) rfl (hsh1.o rfl) rfl rfl (Nat.le_of_ble_eq_true rfl) (Nat.le_of_ble_eq_true rfl) rfl) ?_
  refine R d g1 I1 J1 _ hsh1 hr1 (fun I2 J2 hr2 F2 => ⟨_, rfl, ?_⟩)
  refine e_icmp (v = v) (pc' := 1141) rfl rfl e_d (fun _ => ?_) (fun hc => absurd rfl hc)
  have z := lw_fin0 h0 h120 hk1 F1 hr2 F2 ok'
  exact k g1 I2 J2 w' z.1 z.2
theorem lw_sums (hI : lwI L w g I) (hL : i + 7 ≤ L) (h31 : L < 2 ^ 30) (k : ∀ g' I' J' w', lwI L w' g' I' → lwF g g' I I' → qev (d + 91) 270 (1330, [.ref 0, .ref 4, .ref 105, .ref 119, .int (nI i), w5, w6], [], g', I', J') Q) : qev (d + 91) 270 (1143, [.ref 0, .ref 4, .ref 105, .ref 119, .int (nI i), w5, w6], [], g, I, J) Q := by
  obtain ⟨hk, hr, ok, h0⟩ := hI
  obtain ⟨t, p, M, s, hs, im, sc, rf⟩ := w
  have hsh : qSh g := hk.1.1
  have h120 : 120 ≤ g.2.2.1 := hk.1.2.1
  obtain ⟨v, w', ok', K, R⟩ := c_sums (t := t) (rf := rf) (x1 := I 0 (i + 1)) (x2 := I 0 (i + 2)) ok
  refine e_next (pc' := 1144) rfl rfl ?_
  refine e_next (pc' := 1145) rfl rfl ?_
  refine e_next (pc' := 1147) rfl rfl ?_
  refine e_iconst (v := nI 1) (pc' := 1148) rfl rfl (by decide +kernel) ?_
  refine e_next (pc' := 1149) rfl rfl ?_
  refine e_sald (i + 1) (pc' := 1150) rfl rfl h0 (nI_add i 1) (by omega) (by omega) ?_
  refine e_next (pc' := 1151) rfl rfl ?_
  refine e_next (pc' := 1153) rfl rfl ?_
  refine e_iconst (v := nI 2) (pc' := 1154) rfl rfl (by decide +kernel) ?_
  refine e_next (pc' := 1155) rfl rfl ?_
  refine e_sald (i + 2) (pc' := 1156) rfl rfl h0 (nI_add i 2) (by omega) (by omega) ?_
  refine e_cgI (pc' := 1159) rfl (e_sV (as := [_, _]) (fun _ => rfl) (Or.inl rfl) rfl (hsh.o rfl) rfl rfl (Nat.le_of_ble_eq_true rfl) (Nat.le_of_ble_eq_true rfl) rfl) ?_
  refine K d g I J _ hk (fun g1 I1 J1 hk1 F1 => ⟨_, rfl, ?_⟩)
  have hr1 := lw_mid hr ok F1
  have hsh1 : qSh g1 := hk1.1.1
  have e01 : I1 0 = I 0 := F1.1 0 (by omega)
  have h01 : g1.1 0 = some (110, L) := by rw [F1.2.1.2 0 (by omega)]; exact h0
  refine e_next (pc' := 1160) rfl rfl ?_
  refine e_next (pc' := 1161) rfl rfl ?_
  refine e_next (pc' := 1163) rfl rfl ?_
  refine e_iconst (v := nI 1) (pc' := 1164) rfl rfl (by decide +kernel) ?_
  refine e_next (pc' := 1165) rfl rfl ?_
  refine e_sald (i + 1) (pc' := 1166) rfl rfl h01 (nI_add i 1) (by omega) (by omega) ?_
  refine e_next (pc' := 1167) rfl rfl ?_
  refine e_next (pc' := 1169) rfl rfl ?_
  refine e_iconst (v := nI 2) (pc' := 1170) rfl rfl (by decide +kernel) ?_
  refine e_next (pc' := 1171) rfl rfl ?_
  refine e_sald (i + 2) (pc' := 1172) rfl rfl h01 (nI_add i 2) (by omega) (by omega) ?_
  rw [e01]
  refine e_cgI (pc' := 1175) rfl (e_sV (as := [_, _]) (fun _ => rfl) (Or.inl rfl) rfl (hsh1.o rfl) rfl rfl (Nat.le_of_ble_eq_true rfl) (Nat.le_of_ble_eq_true rfl) rfl) ?_
  refine R d g1 I1 J1 _ hsh1 hr1 (fun I2 J2 hr2 F2 => ⟨_, rfl, ?_⟩)
  refine e_icmp (v = v) (pc' := 1178) rfl rfl e_d (fun _ => ?_) (fun hc => absurd rfl hc)
  have z := lw_fin0 h0 h120 hk1 F1 hr2 F2 ok'
  exact k g1 I2 J2 w' z.1 z.2
theorem lw_run (hI : lwI L w g I) (hL : i + 7 ≤ L) (h31 : L < 2 ^ 30) (k : ∀ g' I' J' w', lwI L w' g' I' → lwF g g' I I' → qev (d + 91) 270 (1330, [.ref 0, .ref 4, .ref 105, .ref 119, .int (nI i), w5, w6], [], g', I', J') Q) : qev (d + 91) 270 (1180, [.ref 0, .ref 4, .ref 105, .ref 119, .int (nI i), w5, w6], [], g, I, J) Q := by
  obtain ⟨hk, hr, ok, h0⟩ := hI
  obtain ⟨t, p, M, s, hs, im, sc, rf⟩ := w
  have hsh : qSh g := hk.1.1
  have h120 : 120 ≤ g.2.2.1 := hk.1.2.1
  obtain ⟨v, w', ok', K, R⟩ := c_run (t := t) (rf := rf) (x1 := I 0 (i + 1)) (x2 := I 0 (i + 2)) ok
  refine e_next (pc' := 1181) rfl rfl ?_
  refine e_next (pc' := 1182) rfl rfl ?_
  refine e_next (pc' := 1184) rfl rfl ?_
  refine e_iconst (v := nI 1) (pc' := 1185) rfl rfl (by decide +kernel) ?_
  refine e_next (pc' := 1186) rfl rfl ?_
  refine e_sald (i + 1) (pc' := 1187) rfl rfl h0 (nI_add i 1) (by omega) (by omega) ?_
  refine e_next (pc' := 1188) rfl rfl ?_
  refine e_next (pc' := 1190) rfl rfl ?_
  refine e_iconst (v := nI 2) (pc' := 1191) rfl rfl (by decide +kernel) ?_
  refine e_next (pc' := 1192) rfl rfl ?_
  refine e_sald (i + 2) (pc' := 1193) rfl rfl h0 (nI_add i 2) (by omega) (by omega) ?_
  refine e_cgI (pc' := 1196) rfl (e_sV (as := [_, _]) (fun _ => rfl) (Or.inl rfl) rfl (hsh.o rfl) rfl rfl (Nat.le_of_ble_eq_true rfl) (Nat.le_of_ble_eq_true rfl) rfl) ?_
  refine K d g I J _ hk (fun g1 I1 J1 hk1 F1 => ⟨_, rfl, ?_⟩)
  have hr1 := lw_mid hr ok F1
  have hsh1 : qSh g1 := hk1.1.1
  have e01 : I1 0 = I 0 := F1.1 0 (by omega)
  have h01 : g1.1 0 = some (110, L) := by rw [F1.2.1.2 0 (by omega)]; exact h0
  refine e_next (pc' := 1197) rfl rfl ?_
  refine e_next (pc' := 1198) rfl rfl ?_
  refine e_next (pc' := 1200) rfl rfl ?_
  refine e_iconst (v := nI 1) (pc' := 1201) rfl rfl (by decide +kernel) ?_
  refine e_next (pc' := 1202) rfl rfl ?_
  refine e_sald (i + 1) (pc' := 1203) rfl rfl h01 (nI_add i 1) (by omega) (by omega) ?_
  refine e_next (pc' := 1204) rfl rfl ?_
  refine e_next (pc' := 1206) rfl rfl ?_
  refine e_iconst (v := nI 2) (pc' := 1207) rfl rfl (by decide +kernel) ?_
  refine e_next (pc' := 1208) rfl rfl ?_
  refine e_sald (i + 2) (pc' := 1209) rfl rfl h01 (nI_add i 2) (by omega) (by omega) ?_
  rw [e01]
  refine e_cgI (pc' := 1212) rfl (e_sV (as := [_, _]) (fun _ => rfl) (Or.inl rfl) rfl (hsh1.o rfl) rfl rfl (Nat.le_of_ble_eq_true rfl) (Nat.le_of_ble_eq_true rfl) rfl) ?_
  refine R d g1 I1 J1 _ hsh1 hr1 (fun I2 J2 hr2 F2 => ⟨_, rfl, ?_⟩)
  refine e_icmp (v = v) (pc' := 1215) rfl rfl e_d (fun _ => ?_) (fun hc => absurd rfl hc)
  have z := lw_fin0 h0 h120 hk1 F1 hr2 F2 ok'
  exact k g1 I2 J2 w' z.1 z.2
theorem lw_target (hI : lwI L w g I) (hL : i + 7 ≤ L) (h31 : L < 2 ^ 30) (k : ∀ g' I' J' w', lwI L w' g' I' → lwF g g' I I' → qev (d + 91) 270 (1330, [.ref 0, .ref 4, .ref 105, .ref 119, .int (nI i), w5, w6], [], g', I', J') Q) : qev (d + 91) 270 (1217, [.ref 0, .ref 4, .ref 105, .ref 119, .int (nI i), w5, w6], [], g, I, J) Q := by
  obtain ⟨hk, hr, ok, h0⟩ := hI
  obtain ⟨t, p, M, s, hs, im, sc, rf⟩ := w
  have hsh : qSh g := hk.1.1
  have h120 : 120 ≤ g.2.2.1 := hk.1.2.1
  obtain ⟨v, w', ok', K, R⟩ := c_target (t := t) (rf := rf) (x1 := I 0 (i + 1)) (x2 := I 0 (i + 2)) ok
  refine e_next (pc' := 1218) rfl rfl ?_
  refine e_next (pc' := 1219) rfl rfl ?_
  refine e_next (pc' := 1221) rfl rfl ?_
  refine e_iconst (v := nI 1) (pc' := 1222) rfl rfl (by decide +kernel) ?_
  refine e_next (pc' := 1223) rfl rfl ?_
  refine e_sald (i + 1) (pc' := 1224) rfl rfl h0 (nI_add i 1) (by omega) (by omega) ?_
  refine e_next (pc' := 1225) rfl rfl ?_
  refine e_next (pc' := 1227) rfl rfl ?_
  refine e_iconst (v := nI 2) (pc' := 1228) rfl rfl (by decide +kernel) ?_
  refine e_next (pc' := 1229) rfl rfl ?_
  refine e_sald (i + 2) (pc' := 1230) rfl rfl h0 (nI_add i 2) (by omega) (by omega) ?_
  refine e_cgI (pc' := 1233) rfl (e_sV (as := [_, _]) (fun _ => rfl) (Or.inl rfl) rfl (hsh.o rfl) rfl rfl (Nat.le_of_ble_eq_true rfl) (Nat.le_of_ble_eq_true rfl) rfl) ?_
  refine K d g I J _ hk (fun g1 I1 J1 hk1 F1 => ⟨_, rfl, ?_⟩)
  have hr1 := lw_mid hr ok F1
  have hsh1 : qSh g1 := hk1.1.1
  have e01 : I1 0 = I 0 := F1.1 0 (by omega)
  have h01 : g1.1 0 = some (110, L) := by rw [F1.2.1.2 0 (by omega)]; exact h0
  refine e_next (pc' := 1234) rfl rfl ?_
  refine e_next (pc' := 1235) rfl rfl ?_
  refine e_next (pc' := 1237) rfl rfl ?_
  refine e_iconst (v := nI 1) (pc' := 1238) rfl rfl (by decide +kernel) ?_
  refine e_next (pc' := 1239) rfl rfl ?_
  refine e_sald (i + 1) (pc' := 1240) rfl rfl h01 (nI_add i 1) (by omega) (by omega) ?_
  refine e_next (pc' := 1241) rfl rfl ?_
  refine e_next (pc' := 1243) rfl rfl ?_
  refine e_iconst (v := nI 2) (pc' := 1244) rfl rfl (by decide +kernel) ?_
  refine e_next (pc' := 1245) rfl rfl ?_
  refine e_sald (i + 2) (pc' := 1246) rfl rfl h01 (nI_add i 2) (by omega) (by omega) ?_
  rw [e01]
  refine e_cgI (pc' := 1249) rfl (e_sV (as := [_, _]) (fun _ => rfl) (Or.inl rfl) rfl (hsh1.o rfl) rfl rfl (Nat.le_of_ble_eq_true rfl) (Nat.le_of_ble_eq_true rfl) rfl) ?_
  refine R d g1 I1 J1 _ hsh1 hr1 (fun I2 J2 hr2 F2 => ⟨_, rfl, ?_⟩)
  refine e_icmp (v = v) (pc' := 1252) rfl rfl e_d (fun _ => ?_) (fun hc => absurd rfl hc)
  have z := lw_fin0 h0 h120 hk1 F1 hr2 F2 ok'
  exact k g1 I2 J2 w' z.1 z.2
theorem lw_most (hI : lwI L w g I) (hL : i + 7 ≤ L) (h31 : L < 2 ^ 30) (k : ∀ g' I' J' w', lwI L w' g' I' → lwF g g' I I' → qev (d + 91) 270 (1330, [.ref 0, .ref 4, .ref 105, .ref 119, .int (nI i), w5, w6], [], g', I', J') Q) : qev (d + 91) 270 (1254, [.ref 0, .ref 4, .ref 105, .ref 119, .int (nI i), w5, w6], [], g, I, J) Q := by
  obtain ⟨hk, hr, ok, h0⟩ := hI
  obtain ⟨t, p, M, s, hs, im, sc, rf⟩ := w
  have hsh : qSh g := hk.1.1
  have h120 : 120 ≤ g.2.2.1 := hk.1.2.1
  obtain ⟨v, w', ok', K, R⟩ := c_most (t := t) (rf := rf) (x1 := I 0 (i + 1)) ok
  refine e_next (pc' := 1255) rfl rfl ?_
  refine e_next (pc' := 1256) rfl rfl ?_
  refine e_next (pc' := 1258) rfl rfl ?_
  refine e_iconst (v := nI 1) (pc' := 1259) rfl rfl (by decide +kernel) ?_
  refine e_next (pc' := 1260) rfl rfl ?_
  refine e_sald (i + 1) (pc' := 1261) rfl rfl h0 (nI_add i 1) (by omega) (by omega) ?_
  refine e_cgI (pc' := 1264) rfl (e_sV (as := [_]) (fun _ => rfl) (Or.inl rfl) rfl (hsh.o rfl) rfl rfl (Nat.le_of_ble_eq_true rfl) (Nat.le_of_ble_eq_true rfl) rfl) ?_
  refine K d g I J _ hk (fun g1 I1 J1 hk1 F1 => ⟨_, rfl, ?_⟩)
  have hr1 := lw_mid hr ok F1
  have hsh1 : qSh g1 := hk1.1.1
  have e01 : I1 0 = I 0 := F1.1 0 (by omega)
  have h01 : g1.1 0 = some (110, L) := by rw [F1.2.1.2 0 (by omega)]; exact h0
  refine e_next (pc' := 1265) rfl rfl ?_
  refine e_next (pc' := 1266) rfl rfl ?_
  refine e_next (pc' := 1268) rfl rfl ?_
  refine e_iconst (v := nI 1) (pc' := 1269) rfl rfl (by decide +kernel) ?_
  refine e_next (pc' := 1270) rfl rfl ?_
  refine e_sald (i + 1) (pc' := 1271) rfl rfl h01 (nI_add i 1) (by omega) (by omega) ?_
  rw [e01]
  refine e_cgI (pc' := 1274) rfl (e_sV (as := [_]) (fun _ => rfl) (Or.inl rfl) rfl (hsh1.o rfl) rfl rfl (Nat.le_of_ble_eq_true rfl) (Nat.le_of_ble_eq_true rfl) rfl) ?_
  refine R d g1 I1 J1 _ hsh1 hr1 (fun I2 J2 hr2 F2 => ⟨_, rfl, ?_⟩)
  refine e_icmp (v = v) (pc' := 1277) rfl rfl e_d (fun _ => ?_) (fun hc => absurd rfl hc)
  have z := lw_fin0 h0 h120 hk1 F1 hr2 F2 ok'
  exact k g1 I2 J2 w' z.1 z.2
theorem lw_image (hI : lwI L w g I) (hL : i + 7 ≤ L) (h31 : L < 2 ^ 30) (k : ∀ g' I' J' w', lwI L w' g' I' → lwF g g' I I' → qev (d + 91) 270 (1330, [.ref 0, .ref 4, .ref 105, .ref 119, .int (nI i), w5, w6], [], g', I', J') Q) : qev (d + 91) 270 (1279, [.ref 0, .ref 4, .ref 105, .ref 119, .int (nI i), w5, w6], [], g, I, J) Q := by
  obtain ⟨hk, hr, ok, h0⟩ := hI
  obtain ⟨t, p, M, s, hs, im, sc, rf⟩ := w
  have hsh : qSh g := hk.1.1
  have h120 : 120 ≤ g.2.2.1 := hk.1.2.1
  obtain ⟨v, w', ok', K, R⟩ := c_image (t := t) (rf := rf) ok
  refine e_next (pc' := 1280) rfl rfl ?_
  refine e_cgI (pc' := 1283) rfl (e_sV (as := []) (fun _ => rfl) (Or.inl rfl) rfl (hsh.o rfl) rfl rfl (Nat.le_of_ble_eq_true rfl) (Nat.le_of_ble_eq_true rfl) rfl) ?_
  refine K d g I J _ hk (fun g1 I1 J1 hk1 F1 => ⟨_, rfl, ?_⟩)
  have hr1 := lw_mid hr ok F1
  have hsh1 : qSh g1 := hk1.1.1
  have e01 : I1 0 = I 0 := F1.1 0 (by omega)
  have h01 : g1.1 0 = some (110, L) := by rw [F1.2.1.2 0 (by omega)]; exact h0
  refine e_next (pc' := 1284) rfl rfl ?_
  refine e_cgI (pc' := 1287) rfl (e_sV (as := []) (fun _ => rfl) (Or.inl rfl) rfl (hsh1.o rfl) rfl rfl (Nat.le_of_ble_eq_true rfl) (Nat.le_of_ble_eq_true rfl) rfl) ?_
  refine R d g1 I1 J1 _ hsh1 hr1 (fun I2 J2 hr2 F2 => ⟨_, rfl, ?_⟩)
  refine e_icmp (v = v) (pc' := 1290) rfl rfl e_d (fun _ => ?_) (fun hc => absurd rfl hc)
  have z := lw_fin0 h0 h120 hk1 F1 hr2 F2 ok'
  exact k g1 I2 J2 w' z.1 z.2
theorem lw_back (hI : lwI L w g I) (hL : i + 7 ≤ L) (h31 : L < 2 ^ 30) (k : ∀ g' I' J' w', lwI L w' g' I' → lwF g g' I I' → qev (d + 91) 270 (1330, [.ref 0, .ref 4, .ref 105, .ref 119, .int (nI i), w5, w6], [], g', I', J') Q) : qev (d + 91) 270 (1292, [.ref 0, .ref 4, .ref 105, .ref 119, .int (nI i), w5, w6], [], g, I, J) Q := by
  obtain ⟨hk, hr, ok, h0⟩ := hI
  obtain ⟨t, p, M, s, hs, im, sc, rf⟩ := w
  have hsh : qSh g := hk.1.1
  have h120 : 120 ≤ g.2.2.1 := hk.1.2.1
  obtain ⟨v, w', ok', K, R⟩ := c_back (t := t) (rf := rf) ok
  refine e_next (pc' := 1293) rfl rfl ?_
  refine e_cgI (pc' := 1296) rfl (e_sV (as := []) (fun _ => rfl) (Or.inl rfl) rfl (hsh.o rfl) rfl rfl (Nat.le_of_ble_eq_true rfl) (Nat.le_of_ble_eq_true rfl) rfl) ?_
  refine K d g I J _ hk (fun g1 I1 J1 hk1 F1 => ⟨_, rfl, ?_⟩)
  have hr1 := lw_mid hr ok F1
  have hsh1 : qSh g1 := hk1.1.1
  have e01 : I1 0 = I 0 := F1.1 0 (by omega)
  have h01 : g1.1 0 = some (110, L) := by rw [F1.2.1.2 0 (by omega)]; exact h0
  refine e_next (pc' := 1297) rfl rfl ?_
  refine e_cgI (pc' := 1300) rfl (e_sV (as := []) (fun _ => rfl) (Or.inl rfl) rfl (hsh1.o rfl) rfl rfl (Nat.le_of_ble_eq_true rfl) (Nat.le_of_ble_eq_true rfl) rfl) ?_
  refine R d g1 I1 J1 _ hsh1 hr1 (fun I2 J2 hr2 F2 => ⟨_, rfl, ?_⟩)
  refine e_icmp (v = v) (pc' := 1303) rfl rfl e_d (fun _ => ?_) (fun hc => absurd rfl hc)
  have z := lw_fin0 h0 h120 hk1 F1 hr2 F2 ok'
  exact k g1 I2 J2 w' z.1 z.2
theorem lw_count (hI : lwI L w g I) (hL : i + 7 ≤ L) (h31 : L < 2 ^ 30) (k : ∀ g' I' J' w', lwI L w' g' I' → lwF g g' I I' → qev (d + 91) 270 (1330, [.ref 0, .ref 4, .ref 105, .ref 119, .int (nI i), w5, w6], [], g', I', J') Q) : qev (d + 91) 270 (1305, [.ref 0, .ref 4, .ref 105, .ref 119, .int (nI i), w5, w6], [], g, I, J) Q := by
  obtain ⟨hk, hr, ok, h0⟩ := hI
  obtain ⟨t, p, M, s, hs, im, sc, rf⟩ := w
  have hsh : qSh g := hk.1.1
  have h120 : 120 ≤ g.2.2.1 := hk.1.2.1
  obtain ⟨v, w', ok', K, R⟩ := c_count (t := t) (rf := rf) (x1 := I 0 (i + 1)) ok
  refine e_next (pc' := 1306) rfl rfl ?_
  refine e_next (pc' := 1307) rfl rfl ?_
  refine e_next (pc' := 1309) rfl rfl ?_
  refine e_iconst (v := nI 1) (pc' := 1310) rfl rfl (by decide +kernel) ?_
  refine e_next (pc' := 1311) rfl rfl ?_
  refine e_sald (i + 1) (pc' := 1312) rfl rfl h0 (nI_add i 1) (by omega) (by omega) ?_
  refine e_cgI (pc' := 1315) rfl (e_sV (as := [_]) (fun _ => rfl) (Or.inl rfl) rfl (hsh.o rfl) rfl rfl (Nat.le_of_ble_eq_true rfl) (Nat.le_of_ble_eq_true rfl) rfl) ?_
  refine K d g I J _ hk (fun g1 I1 J1 hk1 F1 => ⟨_, rfl, ?_⟩)
  have hr1 := lw_mid hr ok F1
  have hsh1 : qSh g1 := hk1.1.1
  have e01 : I1 0 = I 0 := F1.1 0 (by omega)
  have h01 : g1.1 0 = some (110, L) := by rw [F1.2.1.2 0 (by omega)]; exact h0
  refine e_next (pc' := 1316) rfl rfl ?_
  refine e_next (pc' := 1317) rfl rfl ?_
  refine e_next (pc' := 1319) rfl rfl ?_
  refine e_iconst (v := nI 1) (pc' := 1320) rfl rfl (by decide +kernel) ?_
  refine e_next (pc' := 1321) rfl rfl ?_
  refine e_sald (i + 1) (pc' := 1322) rfl rfl h01 (nI_add i 1) (by omega) (by omega) ?_
  rw [e01]
  refine e_cgI (pc' := 1325) rfl (e_sV (as := [_]) (fun _ => rfl) (Or.inl rfl) rfl (hsh1.o rfl) rfl rfl (Nat.le_of_ble_eq_true rfl) (Nat.le_of_ble_eq_true rfl) rfl) ?_
  refine R d g1 I1 J1 _ hsh1 hr1 (fun I2 J2 hr2 F2 => ⟨_, rfl, ?_⟩)
  refine e_icmp (v = v) (pc' := 1328) rfl rfl e_d (fun _ => ?_) (fun hc => absurd rfl hc)
  have z := lw_fin0 h0 h120 hk1 F1 hr2 F2 ok'
  exact k g1 I2 J2 w' z.1 z.2
end LAWS
