section QARR
variable {p : Program} {l : Launch} {e : Env} {R : Room} {s : State} {mI : MethodId} {args : Array Value} {below : List Frame} {meth : Method} {c : Code} {H : Heap} {locs : List Loc} {cells slots : Nat} {Qf : State → Prop} {X : qX} {m pc : Nat} {lv st : List Value} {g : qG} {I : qI} {J : qJ} {ls : Array Slot}
theorem qw_self {α : Type} (f : Nat → Nat → α) (a k : Nat) (v : α) : qw f a k v a = va_up (f a) k v := va_up_self _ _ _
theorem qtys_A (hcx : qCx X s) {t : Nat} {ty : FieldType} (h : (qtys X)[t]? = some (xC X (100 + t), ty)) : ArrOfT s (xC X (100 + t)) ty := (hcx.K.2 t _ h).1
theorem qHp.arr {H : Heap} (h : qHp X g I J H) {a k n : Nat} (hk : g.1 a = some (k, n)) (h1 : 100 ≤ k) (h2 : ¬ k = 110) : 4 ≤ a ∧ k ≤ 105 ∧ n < 2 ^ 31 ∧ va_at (xD X) qCl (qrho X a, .inl (xC X k, qca X g I J a k n)) H := by
  obtain ⟨c1, c2, c3, c4⟩ := h.cell hk h2
  rw [qce_a h1] at c4
  rcases c3 with c3 | c3
  · omega
  · exact ⟨c1, c3.2.1, c3.2.2, c4⟩
theorem qar_inv {o t n : Nat} (h : qar g o t = some n) : g.1 o = some (t, n) := qar_k h
theorem qlo_add {a j : Nat} (hlo : ∀ z ∈ locs, xB X ≤ z.base) (ha : 4 ≤ a) : ∀ z ∈ locs ++ [(⟨qrho X a, j⟩ : Loc)], xB X ≤ z.base := by
  intro z hz
  rcases List.mem_append.mp hz with h | h
  · exact hlo z h
  · rw [List.mem_singleton.mp h]
    exact qrho_le ha
theorem qs_iaload (M : qMx p s mI args meth c m X) (hx0 : c.code = (qYm m).2.1) {o k n : Nat} {i : Int32} {r : List Value} (hd : decode (qYm m).2.1 pc = .ok (.iaload, 1)) (hH : qHp X g I J H) (hk : g.1 o = some (k, n)) (hk2 : k = 100 ∨ k = 110) (hi : qix i n = true)
    (kk : W p l e R s mI args below meth c H locs cells slots Qf (F0 mI (pc + 1) ls ((.int (I o i.toNatClampNeg) :: r).map (qv X)))) : W p l e R s mI args below meth c H locs cells slots Qf (F0 mI pc ls ((.int i :: .ref o :: r).map (qv X))) := by
  obtain ⟨hx, hb, hml, hown, hts, hcx, hnm⟩ := M
  have hin := qix_in hi
  rcases hH.2.2 o k n hk with ⟨rfl, rfl, rfl, hv⟩ | ⟨h4, h5, h6, h7⟩
  · obtain ⟨-, hX, ⟨hS0, hBH⟩, -⟩ := hcx
    have hlt : i.toNatClampNeg < xL X := Nat.not_le.mp fun q => hin (Or.inr q)
    obtain ⟨scr, g1, g2, g3, g4, g5⟩ := hX
    have he : qrho X 0 = xS X 0 := if_pos (by decide)
    show W p l e R s mI args below meth c H locs cells slots Qf (F0 mI pc ls (.int i :: .ref (qrho X 0) :: r.map (qv X)))
    rw [he]
    refine W.iald (v := .int (xV X i.toNatClampNeg)) hx hb (by rw [hH.2.1 _ hS0]; exact g1) g2 g3 (by rw [g4]; exact hin) (g5 _ hlt) rfl rfl hd ?_
    rw [← hv _ hlt]
    exact kk
  · have hk3 : k = 100 := by
      rcases hk2 with h | h
      · exact h
      · omega
    subst hk3
    obtain ⟨a1, a2, a3, a4⟩ := hH.arr hk (by decide) (by decide)
    exact va_iald hx hb hcx.K (va_P1 a4) 0 0 rfl rfl hin hd kk
theorem qs_baload (M : qMx p s mI args meth c m X) {o n : Nat} {i : Int32} {r : List Value} (hd : decode (qYm m).2.1 pc = .ok (.baload, 1)) (hH : qHp X g I J H) (hk : g.1 o = some (101, n)) (hi : qix i n = true)
    (kk : W p l e R s mI args below meth c H locs cells slots Qf (F0 mI (pc + 1) ls ((.int (I o i.toNatClampNeg) :: r).map (qv X)))) : W p l e R s mI args below meth c H locs cells slots Qf (F0 mI pc ls ((.int i :: .ref o :: r).map (qv X))) := by
  obtain ⟨hx, hb, hml, hown, hts, hcx, hnm⟩ := M
  obtain ⟨a1, a2, a3, a4⟩ := hH.arr hk (by decide) (by decide)
  exact va_bald hx hb hcx.K (va_P1 a4) 0 1 rfl rfl (qix_in hi) hd kk
theorem qs_laload (M : qMx p s mI args meth c m X) {o n : Nat} {i : Int32} {r : List Value} (hd : decode (qYm m).2.1 pc = .ok (.laload, 1)) (hH : qHp X g I J H) (hk : g.1 o = some (102, n)) (hi : qix i n = true)
    (kk : W p l e R s mI args below meth c H locs cells slots Qf (F0 mI (pc + 1) ls ((.long (J o i.toNatClampNeg) :: r).map (qv X)))) : W p l e R s mI args below meth c H locs cells slots Qf (F0 mI pc ls ((.int i :: .ref o :: r).map (qv X))) := by
  obtain ⟨hx, hb, hml, hown, hts, hcx, hnm⟩ := M
  obtain ⟨a1, a2, a3, a4⟩ := hH.arr hk (by decide) (by decide)
  exact va_lald hx hb hcx.K (va_P1 a4) 0 2 rfl rfl (qix_in hi) hd kk
theorem qs_aaload (M : qMx p s mI args meth c m X) {o k n : Nat} {i : Int32} {r : List Value} (hd : decode (qYm m).2.1 pc = .ok (.aaload, 1)) (hH : qHp X g I J H) (hk : g.1 o = some (k, n)) (hk2 : k = 103 ∨ k = 104 ∨ k = 105) (hi : qix i n = true)
    (kk : W p l e R s mI args below meth c H locs cells slots Qf (F0 mI (pc + 1) ls ((va_rf (g.2.1 o i.toNatClampNeg) :: r).map (qv X)))) : W p l e R s mI args below meth c H locs cells slots Qf (F0 mI pc ls ((.int i :: .ref o :: r).map (qv X))) := by
  obtain ⟨hx, hb, hml, hown, hts, hcx, hnm⟩ := M
  rw [List.map_cons, qv_rf] at kk
  rcases hk2 with rfl | rfl | rfl
  · obtain ⟨a1, a2, a3, a4⟩ := hH.arr hk (by decide) (by decide)
    exact va_aldq hx hb hcx.K (va_P1 a4) 0 3 rfl rfl (qix_in hi) hd kk
  · obtain ⟨a1, a2, a3, a4⟩ := hH.arr hk (by decide) (by decide)
    exact va_aldq hx hb hcx.K (va_P1 a4) 0 4 rfl rfl (qix_in hi) hd kk
  · obtain ⟨a1, a2, a3, a4⟩ := hH.arr hk (by decide) (by decide)
    exact va_aldq hx hb hcx.K (va_P1 a4) 0 5 rfl rfl (qix_in hi) hd kk
theorem qs_alen (M : qMx p s mI args meth c m X) {o k n : Nat} {r : List Value} (hd : decode (qYm m).2.1 pc = .ok (.arraylength, 1)) (hH : qHp X g I J H) (hk : g.1 o = some (k, n)) (hk2 : 100 ≤ k)
    (kk : W p l e R s mI args below meth c H locs cells slots Qf (F0 mI (pc + 1) ls ((.int (Int32.ofNat n) :: r).map (qv X)))) : W p l e R s mI args below meth c H locs cells slots Qf (F0 mI pc ls ((.ref o :: r).map (qv X))) := by
  obtain ⟨hx, hb, hml, hown, hts, hcx, hnm⟩ := M
  rcases hH.2.2 o k n hk with ⟨rfl, rfl, rfl, hv⟩ | ⟨h4, h5, h6, h7⟩
  · obtain ⟨-, hX, ⟨hS0, hBH⟩, -⟩ := hcx
    obtain ⟨scr, g1, g2, g3, g4, g5⟩ := hX
    have he : qrho X 0 = xS X 0 := if_pos (by decide)
    show W p l e R s mI args below meth c H locs cells slots Qf (F0 mI pc ls (.ref (qrho X 0) :: r.map (qv X)))
    rw [he]
    exact W.alen (n := Int32.ofNat (xL X)) hx hb (by rw [hH.2.1 _ hS0]; exact g1) g2 (by rw [g4] <;> rfl) rfl rfl hd kk
  · have hk3 : ¬ k = 110 := by
      rcases h6 with h | h <;> omega
    obtain ⟨a1, a2, a3, a4⟩ := hH.arr hk hk2 hk3
    rcases (show k = 100 ∨ k = 101 ∨ k = 102 ∨ k = 103 ∨ k = 104 ∨ k = 105 by omega) with rfl | rfl | rfl | rfl | rfl | rfl
    · exact va_alen hx hb hcx.K (va_P1 a4) 0 0 rfl rfl rfl hd kk
    · exact va_alen hx hb hcx.K (va_P1 a4) 0 1 rfl rfl rfl hd kk
    · exact va_alen hx hb hcx.K (va_P1 a4) 0 2 rfl rfl rfl hd kk
    · exact va_alen hx hb hcx.K (va_P1 a4) 0 3 rfl rfl rfl hd kk
    · exact va_alen hx hb hcx.K (va_P1 a4) 0 4 rfl rfl rfl hd kk
    · exact va_alen hx hb hcx.K (va_P1 a4) 0 5 rfl rfl rfl hd kk
theorem qs_iastore (M : qMx p s mI args meth c m X) {o n : Nat} {i v : Int32} {r : List Value} (hd : decode (qYm m).2.1 pc = .ok (.iastore, 1)) (hH : qHp X g I J H) (hlo : ∀ z ∈ locs, xB X ≤ z.base) (hk : g.1 o = some (100, n)) (hi : qix i n = true)
    (kk : ∀ H1 locs1, qHp X g (qw I o i.toNatClampNeg v) J H1 → (∀ z ∈ locs1, xB X ≤ z.base) → W p l e R s mI args below meth c H1 locs1 cells slots Qf (F0 mI (pc + 1) ls (r.map (qv X)))) : W p l e R s mI args below meth c H locs cells slots Qf (F0 mI pc ls ((.int v :: .int i :: .ref o :: r).map (qv X))) := by
  obtain ⟨hx, hb, hml, hown, hts, hcx, hnm⟩ := M
  obtain ⟨a1, a2, a3, a4⟩ := hH.arr hk (by decide) (by decide)
  refine qput_i hx hb (qtys_A (t := 0) hcx rfl) a4 (qix_in hi) hd (fun H1 j h1 h2 h3 => kk H1 _ (hH.set hk a1 ⟨rfl, rfl⟩ (fun _ _ => rfl) (fun y hy => va_up_ne _ _ hy) (fun _ _ => rfl) ?_ h2 h3) (qlo_add hlo a1))
  rw [qce_a (by decide)]
  unfold qca
  rw [qw_self]
  exact h1
theorem qs_bastore (M : qMx p s mI args meth c m X) {o n : Nat} {i v : Int32} {r : List Value} (hd : decode (qYm m).2.1 pc = .ok (.bastore, 1)) (hH : qHp X g I J H) (hlo : ∀ z ∈ locs, xB X ≤ z.base) (hk : g.1 o = some (101, n)) (hi : qix i n = true)
    (kk : ∀ H1 locs1, qHp X g (qw I o i.toNatClampNeg v.toInt8.toInt32) J H1 → (∀ z ∈ locs1, xB X ≤ z.base) → W p l e R s mI args below meth c H1 locs1 cells slots Qf (F0 mI (pc + 1) ls (r.map (qv X)))) : W p l e R s mI args below meth c H locs cells slots Qf (F0 mI pc ls ((.int v :: .int i :: .ref o :: r).map (qv X))) := by
  obtain ⟨hx, hb, hml, hown, hts, hcx, hnm⟩ := M
  obtain ⟨a1, a2, a3, a4⟩ := hH.arr hk (by decide) (by decide)
  refine qput_b hx hb (qtys_A (t := 1) hcx rfl) a4 (qix_in hi) hd (fun H1 j h1 h2 h3 => kk H1 _ (hH.set hk a1 ⟨rfl, rfl⟩ (fun _ _ => rfl) (fun y hy => va_up_ne _ _ hy) (fun _ _ => rfl) ?_ h2 h3) (qlo_add hlo a1))
  rw [qce_a (by decide)]
  unfold qca
  rw [qw_self]
  exact h1
theorem qs_lastore (M : qMx p s mI args meth c m X) {o n : Nat} {i : Int32} {v : Int64} {r : List Value} (hd : decode (qYm m).2.1 pc = .ok (.lastore, 1)) (hH : qHp X g I J H) (hlo : ∀ z ∈ locs, xB X ≤ z.base) (hk : g.1 o = some (102, n)) (hi : qix i n = true)
    (kk : ∀ H1 locs1, qHp X g I (qw J o i.toNatClampNeg v) H1 → (∀ z ∈ locs1, xB X ≤ z.base) → W p l e R s mI args below meth c H1 locs1 cells slots Qf (F0 mI (pc + 1) ls (r.map (qv X)))) : W p l e R s mI args below meth c H locs cells slots Qf (F0 mI pc ls ((.long v :: .int i :: .ref o :: r).map (qv X))) := by
  obtain ⟨hx, hb, hml, hown, hts, hcx, hnm⟩ := M
  obtain ⟨a1, a2, a3, a4⟩ := hH.arr hk (by decide) (by decide)
  refine qput_l hx hb (qtys_A (t := 2) hcx rfl) a4 (qix_in hi) hd (fun H1 j h1 h2 h3 => kk H1 _ (hH.set hk a1 ⟨rfl, rfl⟩ (fun _ _ => rfl) (fun _ _ => rfl) (fun y hy => va_up_ne _ _ hy) ?_ h2 h3) (qlo_add hlo a1))
  rw [qce_a (by decide)]
  unfold qca
  rw [qw_self]
  exact h1
theorem qmap_up {f : Nat → Option Nat} {k v : Nat} {h : Nat → Nat} : (fun j => (va_up f k (some v) j).map h) = va_up (fun j => (f j).map h) k (some (h v)) := by
  funext j
  by_cases hj : j = k
  · subst hj
    rw [va_up_self, va_up_self]
    rfl
  · rw [va_up_ne _ _ hj, va_up_ne _ _ hj]
theorem qs_aastore (M : qMx p s mI args meth c m X) {o k n v : Nat} {i : Int32} {r : List Value} (hd : decode (qYm m).2.1 pc = .ok (.aastore, 1)) (hH : qHp X g I J H) (hlo : ∀ z ∈ locs, xB X ≤ z.base) (hk : g.1 o = some (k, n)) (hk2 : k = 103 ∨ k = 104 ∨ k = 105) (hv : qob g v (qel k) = true) (hi : qix i n = true)
    (kk : ∀ H1 locs1, qHp X (g.1, qw g.2.1 o i.toNatClampNeg (some v), g.2.2) I J H1 → (∀ z ∈ locs1, xB X ≤ z.base) → W p l e R s mI args below meth c H1 locs1 cells slots Qf (F0 mI (pc + 1) ls (r.map (qv X)))) : W p l e R s mI args below meth c H locs cells slots Qf (F0 mI pc ls ((.ref v :: .int i :: .ref o :: r).map (qv X))) := by
  obtain ⟨hx, hb, hml, hown, hts, hcx, hnm⟩ := M
  obtain ⟨nv, hkv⟩ := qob_k hv
  rcases hk2 with rfl | rfl | rfl
  · obtain ⟨a1, a2, a3, a4⟩ := hH.arr hk (by decide) (by decide)
    obtain ⟨b1, b2, b3, b4⟩ := hH.cell hkv (by decide)
    rw [qce_o (by decide)] at b4
    refine qput_a (r := qC3 6) hx hb hcx.K 3 6 a4 rfl b4 (qC3_at (by decide)) (qix_in hi) hd (fun H1 j h1 h2 h3 => kk H1 _ (hH.set hk a1 ⟨rfl, rfl⟩ (fun y hy => va_up_ne _ _ hy) (fun _ _ => rfl) (fun _ _ => rfl) ?_ h2 h3) (qlo_add hlo a1))
    rw [qce_a (by decide)]
    unfold qca
    dsimp only
    rw [qw_self, qmap_up]
    exact h1
  · obtain ⟨a1, a2, a3, a4⟩ := hH.arr hk (by decide) (by decide)
    obtain ⟨b1, b2, b3, b4⟩ := hH.cell hkv (by decide)
    rw [qce_o (by decide)] at b4
    refine qput_a (r := qC3 7) hx hb hcx.K 4 7 a4 rfl b4 (qC3_at (by decide)) (qix_in hi) hd (fun H1 j h1 h2 h3 => kk H1 _ (hH.set hk a1 ⟨rfl, rfl⟩ (fun y hy => va_up_ne _ _ hy) (fun _ _ => rfl) (fun _ _ => rfl) ?_ h2 h3) (qlo_add hlo a1))
    rw [qce_a (by decide)]
    unfold qca
    dsimp only
    rw [qw_self, qmap_up]
    exact h1
  · obtain ⟨a1, a2, a3, a4⟩ := hH.arr hk (by decide) (by decide)
    obtain ⟨b1, b2, b3, b4⟩ := hH.cell hkv (by decide)
    rw [qce_o (by decide)] at b4
    refine qput_a (r := qC3 1) hx hb hcx.K 5 1 a4 rfl b4 (qC3_at (by decide)) (qix_in hi) hd (fun H1 j h1 h2 h3 => kk H1 _ (hH.set hk a1 ⟨rfl, rfl⟩ (fun y hy => va_up_ne _ _ hy) (fun _ _ => rfl) (fun _ _ => rfl) ?_ h2 h3) (qlo_add hlo a1))
    rw [qce_a (by decide)]
    unfold qca
    dsimp only
    rw [qw_self, qmap_up]
    exact h1
/-- new cells -/
theorem qs_new (M : qMx p s mI args meth c m X) {ix a b : Nat} (hx1 : qP m pc = some (.new ix, 3, a, b, 0) ∨ ∃ t, qP m pc = some (.new ix, 3, a, b, t)) (ha : ¬ a = 99) (hH : qHp X g I J H) (hc : cells + 1 ≤ R.cells) (hs : slots + b ≤ R.slots)
    (kk : ∀ H1, qHp X (qmk a b g) (qmI g I) (qmJ g J) H1 → W p l e R s mI args below meth c H1 locs (cells + 1) (slots + b) Qf (F0 mI (pc + 3) ls ((.ref g.2.2.1 :: st).map (qv X)))) : W p l e R s mI args below meth c H locs cells slots Qf (F0 mI pc ls (st.map (qv X))) := by
  obtain ⟨t, hx1⟩ : ∃ t, qP m pc = some (.new ix, 3, a, b, t) := hx1.elim (fun h => ⟨0, h⟩) id
  obtain ⟨hx, hb, hml, hown, hts, hcx, hnm⟩ := M
  have hd := qdec hx1
  have hk := qlinks hx1
  unfold qlk at hk
  dsimp only at hk hd
  simp only [Bool.and_eq_true, Bool.or_eq_true] at hk
  obtain ⟨-, hk⟩ := hk
  rcases hk with hk | ⟨ha1, hk1, hb1⟩
  · exact absurd (Nat.eq_of_beq_eq_true hk) ha
  · have ha1 : a < 11 := Nat.lt_of_lt_of_le (Nat.lt_succ_self a) (Nat.le_of_ble_eq_true ha1)
    have hb1 : b = (qC3 a).2.2 := Nat.eq_of_beq_eq_true hb1
    have hKn := hcx.K.1 a _ (qC3_at ha1)
    have i1 := hts _ (qTs_mem (qIns_ok a ha1).1 rfl)
    have i2 := hts _ (qTs_mem (qIns_ok a ha1).2 rfl)
    subst hb1
    have hnm2 := qC3_name ha1
    refine W.newcK (C := qOn a) (n := (qC3 a).2.2) hx hb hown (hts _ (qKm_word hk1)) i1 i2 rfl hd hc hs (by rw [← hnm2]; exact hKn.2.1) rfl fun H1 kC hkC e1 z1 o1 => ?_
    have hs := hH.size
    show W p l e R s mI args below meth c H1 locs (cells + 1) (slots + (qC3 a).2.2) Qf (F0 mI (pc + 3) ls (.ref H.size :: st.map (qv X)))
    rw [← hs]
    refine kk H1 (hH.push (Or.inl ⟨ha1, rfl⟩) ?_ z1 o1)
    rw [qce_o ha1]
    refine ⟨_, qC3_at ha1, (u_born (qTy a) hts (qhin ha1) hKn hkC e1 (qty_ok ha1)).to (fun j hj => ?_)⟩
    show defaultValue (qTy a j) = vp_V _ j
    unfold vp_V
    rw [List.getD_eq_getElem?_getD, qrange_at hj]
    show defaultValue (qTy a j) = qfv X (qmk a (qC3 a).2.2 g) (qmI g I) (qmJ g J) a g.2.2.1 j
    have z1 : (qmk a (qC3 a).2.2 g).2.1 g.2.2.1 = fun _ => none := va_up_self _ _ _
    have z2 : qmI g I g.2.2.1 = fun _ => 0 := va_up_self _ _ _
    have z3 : qmJ g J g.2.2.1 = fun _ => 0 := va_up_self _ _ _
    unfold qfv
    rw [z1, z2, z3]
    rcases qFt_ok a ha1 j hj with ⟨e1, e2⟩ | ⟨e1, e2⟩ | ⟨e1, e2⟩ | ⟨e1, e2⟩
    · rw [e1, e2]; rfl
    · rw [e1, e2]; rfl
    · rw [e1, e2]; rfl
    · rw [e1]
      generalize qTy a j = ty at e2
      cases ty <;> first | rfl | cases e2
theorem qfc (hcx : qCx X s) {t : Nat} {ty : FieldType} (h : (qtys X)[t]? = some (xC X (100 + t), ty)) (hp : ∀ C, ty ≠ .object C) : s.vm.findClass ("[" ++ ty.toString) = some (xC X (100 + t)) := by
  have h1 := (hcx.K.2 t _ h).2
  unfold va_RA at h1
  cases ty with
  | object C => exact absurd rfl (hp C)
  | _ => exact h1
set_option maxRecDepth 100000 in
theorem qs_newarray (M : qMx p s mI args meth c m X) {ty : Jvm.ClassFile.ArrayType} {k : Nat} (hty : (ty = .int ∧ k = 100) ∨ (ty = .byte ∧ k = 101) ∨ (ty = .long ∧ k = 102)) {v : Int32} {r : List Value} (hd : decode (qYm m).2.1 pc = .ok (.newarray ty, 2)) (hv : 0 ≤ v.toInt ∧ v.toInt ≤ 1000000) (hH : qHp X g I J H) (hc : cells + 1 ≤ R.cells) (hs : slots + v.toNatClampNeg ≤ R.slots)
    (kk : ∀ H1, qHp X (qmk k v.toNatClampNeg g) (qmI g I) (qmJ g J) H1 → W p l e R s mI args below meth c H1 locs (cells + 1) (slots + v.toNatClampNeg) Qf (F0 mI (pc + 2) ls ((.ref g.2.2.1 :: r).map (qv X)))) : W p l e R s mI args below meth c H locs cells slots Qf (F0 mI pc ls ((.int v :: r).map (qv X))) := by
  obtain ⟨hx, hb, hml, hown, hts, hcx, hnm⟩ := M
  obtain ⟨n1, n2⟩ := qnn hv.1
  have hs9 := hH.size
  have harr : (Cond.arrayClass (newarray.typeOf ty)).before args s = true := by
    rcases hty with ⟨rfl, rfl⟩ | ⟨rfl, rfl⟩ | ⟨rfl, rfl⟩
    · exact hts _ (qTs_mem (i := 169) rfl rfl)
    · exact hts _ (qTs_mem (i := 1082) rfl rfl)
    · exact hts _ (qTs_mem (i := 1725) rfl rfl)
  refine va_newaK hx hb harr rfl hd rfl n1 rfl (by rcases hty with ⟨rfl, rfl⟩ | ⟨rfl, rfl⟩ | ⟨rfl, rfl⟩ <;> simp only [newarray.typeOf, componentBytes] <;> omega) hc hs rfl fun H1 cA e1 z1 o1 hAr hNm => ?_
  show W p l e R s mI args below meth c H1 locs (cells + 1) (slots + v.toNatClampNeg) Qf (F0 mI (pc + 2) ls (.ref H.size :: r.map (qv X)))
  rw [← hs9]
  rcases hty with ⟨rfl, rfl⟩ | ⟨rfl, rfl⟩ | ⟨rfl, rfl⟩
  · have hcA : cA = xC X 100 := Option.some.inj (hNm.symm.trans (qfc (t := 0) hcx rfl (fun C h => by cases h)))
    subst hcA
    refine kk H1 (hH.push (Or.inr ⟨by decide, by decide, by omega⟩) ?_ z1 o1)
    have z2 : qmI g I g.2.2.1 = fun _ => 0 := va_up_self _ _ _
    have z3 : qmJ g J g.2.2.1 = fun _ => 0 := va_up_self _ _ _
    rw [qce_a (by decide)]
    unfold qca
    rw [z2, z3]
    exact e1
  · have hcA : cA = xC X 101 := Option.some.inj (hNm.symm.trans (qfc (t := 1) hcx rfl (fun C h => by cases h)))
    subst hcA
    refine kk H1 (hH.push (Or.inr ⟨by decide, by decide, by omega⟩) ?_ z1 o1)
    have z2 : qmI g I g.2.2.1 = fun _ => 0 := va_up_self _ _ _
    have z3 : qmJ g J g.2.2.1 = fun _ => 0 := va_up_self _ _ _
    rw [qce_a (by decide)]
    unfold qca
    rw [z2, z3]
    exact e1
  · have hcA : cA = xC X 102 := Option.some.inj (hNm.symm.trans (qfc (t := 2) hcx rfl (fun C h => by cases h)))
    subst hcA
    refine kk H1 (hH.push (Or.inr ⟨by decide, by decide, by omega⟩) ?_ z1 o1)
    have z2 : qmI g I g.2.2.1 = fun _ => 0 := va_up_self _ _ _
    have z3 : qmJ g J g.2.2.1 = fun _ => 0 := va_up_self _ _ _
    rw [qce_a (by decide)]
    unfold qca
    rw [z2, z3]
    exact e1
set_option maxRecDepth 100000 in
theorem qs_anewarray (M : qMx p s mI args meth c m X) {ix k b t : Nat} {v : Int32} {r : List Value} (hx1 : qP m pc = some (.anewarray ix, 3, k, b, t)) (hv : 0 ≤ v.toInt ∧ v.toInt ≤ 1000000) (hH : qHp X g I J H) (hc : cells + 1 ≤ R.cells) (hs : slots + v.toNatClampNeg ≤ R.slots)
    (kk : ∀ H1, qHp X (qmk k v.toNatClampNeg g) (qmI g I) (qmJ g J) H1 → W p l e R s mI args below meth c H1 locs (cells + 1) (slots + v.toNatClampNeg) Qf (F0 mI (pc + 3) ls ((.ref g.2.2.1 :: r).map (qv X)))) : W p l e R s mI args below meth c H locs cells slots Qf (F0 mI pc ls ((.int v :: r).map (qv X))) := by
  obtain ⟨hx, hb, hml, hown, hts, hcx, hnm⟩ := M
  obtain ⟨n1, n2⟩ := qnn hv.1
  have hs9 := hH.size
  have hd := qdec hx1
  have hk := qlinks hx1
  unfold qlk at hk
  dsimp only at hk hd
  simp only [Bool.and_eq_true, Bool.or_eq_true] at hk
  obtain ⟨-, hk2, hk3⟩ := hk
  have hcl := hts _ (qKm_word hk3)
  have main : ∀ (C : String) (t : Nat), (qtys X)[t]? = some (xC X (100 + t), .object C) → k = 100 + t → 3 ≤ t → t ≤ 5 → qOn (qel k) = C → (Cond.arrayOver (.object C)).before args s = true → W p l e R s mI args below meth c H locs cells slots Qf (F0 mI pc ls ((.int v :: r).map (qv X))) := by
    intro C t ht hk4 ht3 ht5 hC hov
    rw [hC] at hcl
    refine W.anew hx hb hown hcl hov rfl hd rfl n1 (by omega) hc hs fun cA kA comp f1 f2 f3 f4 => ?_
    show W p l e R s mI args below meth c _ locs (cells + 1) (slots + v.toNatClampNeg) Qf (F0 mI (pc + 3) ls (.ref H.size :: r.map (qv X)))
    rw [← hs9]
    have h1 := (hcx.K.2 t _ ht).2
    obtain ⟨kA2, comp2, g1, g2, g3, g4⟩ := h1
    have hcA : cA = xC X (100 + t) := Option.some.inj (f1.symm.trans g4)
    subst hcA
    subst hk4
    refine kk _ (hH.push (Or.inr ⟨by omega, by omega, by omega⟩) ?_ (by simp) (fun q hq => by rw [Array.getElem?_push, if_neg (Nat.ne_of_lt hq)]))
    rw [qce_a (by omega)]
    have e1 : (H.push ({ cls := xC X (100 + t), slots := Array.replicate v.toNatClampNeg .null, vm := .none } : Cell))[H.size]? = some (arrV (xC X (100 + t)) v.toNatClampNeg (fun _ => .null)) := by rw [Array.getElem?_push_size, ← arrV_new]
    rcases (show t = 3 ∨ t = 4 ∨ t = 5 by omega) with rfl | rfl | rfl
    · unfold qca qmk
      dsimp only
      rw [va_up_self]
      exact e1
    · unfold qca qmk
      dsimp only
      rw [va_up_self]
      exact e1
    · unfold qca qmk
      dsimp only
      rw [va_up_self]
      exact e1
  rcases hk2 with h | h | h
  · obtain rfl := Nat.eq_of_beq_eq_true h
    exact main RX6 3 rfl rfl (by decide) (by decide) rfl (va_AO.use hcx.2.2.2.2.2.2.1)
  · obtain rfl := Nat.eq_of_beq_eq_true h
    exact main RX7 4 rfl rfl (by decide) (by decide) rfl (va_AO.use hcx.2.2.2.2.2.2.2.1)
  · obtain rfl := Nat.eq_of_beq_eq_true h
    exact main RX1 5 rfl rfl (by decide) (by decide) rfl (va_AO.use hcx.2.2.2.2.2.2.2.2)
end QARR
