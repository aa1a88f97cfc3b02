/-! what a state of the machine has at any time of the run; the heap under writes and new cells -/
abbrev qtys (X : qX) : List (ClassId × FieldType) := [(xC X 100, .int), (xC X 101, .byte), (xC X 102, .long), (xC X 103, .object RX6), (xC X 104, .object RX7), (xC X 105, .object RX1)]
abbrev qAA (X : qX) : Nat → Prop := fun q => xB X ≤ q
def qlens : List Nat := [2, 8, 9]
def qbyts : List (List Int32) := [[112, 109], [97, 98, 99, 100, 101, 102, 103, 104], [68, 83, 76, 69, 82, 81, 84, 67, 72]]
def qStr (X : qX) (s : State) : Prop := (∃ adV : Nat → Nat, vk_S 3 qlens qbyts (fun i => xS X (i + 1)) adV (qAA X) s (xH X)) ∧ vk_R RX10 110 "pm" (xS X 1) s ∧ vk_R RX10 152 "abcdefgh" (xS X 2) s ∧ vk_R RX10 154 "DSLERQTCH" (xS X 3) s ∧ va_Z "java/lang/String" "COMPACT_STRINGS" "Z" (.int 1) (qAA X) s (xH X) ∧ va_Zq "jdk/internal/util/Preconditions" "SIOOBE_FORMATTER" "Ljava/util/function/BiFunction;" (qAA X) s (xH X)
def qDcs : List MethodName := [⟨"java/lang/RuntimeException", "<init>", "(Ljava/lang/String;)V"⟩, ⟨"java/lang/Exception", "<init>", "(Ljava/lang/String;)V"⟩, ⟨"java/lang/Throwable", "<init>", "(Ljava/lang/String;)V"⟩]
def qExc (X : qX) (s : State) : Prop := (∃ sa : Nat, vk_R RX9 155 "not known" sa s) ∧ vx_Zq Bundle.tN "UNASSIGNED_STACK" Bundle.steD (qAA X) s (xH X) ∧ vx_Zq Bundle.tN "SUPPRESSED_SENTINEL" Bundle.listD (qAA X) s (xH X) ∧ (∀ a, (Cond.castable "java/util/NoSuchElementException" "java/util/NoSuchElementException").before a s = true) ∧ (∀ x ∈ qDcs, ∀ a, (Cond.declares x).before a s = true)
def qCx (X : qX) (s : State) : Prop := va_K (xD X) qCl (qtys X) s ∧ va_X (xS X 0) (xL X) (xV X) s (xH X) ∧ (xS X 0 < xB X ∧ xB X = (xH X).size) ∧ (∀ w ∈ qNws, va_Nw w s) ∧ qStr X s ∧ qExc X s ∧ va_AO RX6 s ∧ va_AO RX7 s ∧ va_AO RX1 s
theorem qcast_warm {C T : String} {s U : State} (hW : s.WarmedH U.vm) (h : ∀ a, (Cond.castable C T).before a s = true) : ∀ a, (Cond.castable C T).before a U = true := by
  intro a
  have h1 := Cond.castable_setVm (args := a) hW.alike C T
  rw [h a] at h1
  have h2 := Cond.onTables_vm (A := a) (A' := a) (U := U) (U' := s) U.vm (Cond.castable C T) rfl
  rw [State.setVm_self] at h2
  rw [h2, h1]
theorem qdecl_warm {x : MethodName} {s U : State} (hW : s.WarmedH U.vm) (h : ∀ a, (Cond.declares x).before a s = true) : ∀ a, (Cond.declares x).before a U = true := by
  intro a
  have h1 := Cond.declares_setVm (args := a) hW.alike x
  rw [h a] at h1
  have h2 := Cond.onTables_vm (A := a) (A' := a) (U := U) (U' := s) U.vm (Cond.declares x) rfl
  rw [State.setVm_self] at h2
  rw [h2, h1]
theorem qCx.warm {X : qX} {s U : State} (hW : s.WarmedH U.vm) (h : qCx X s) : qCx X U := by
  obtain ⟨h1, h2, h3, h4, ⟨⟨adV, s1⟩, s2, s3, s4, s5, s6⟩, ⟨⟨sa, x1⟩, x2, x3, x4, x5⟩, y1, y2, y3⟩ := h
  refine ⟨va_K.moved hW.alike h1, va_X.moved hW.alike h2, h3, fun w hw => ?_, ⟨⟨adV, vk_S.moved hW.alike s1⟩, vk_R.warm hW s2, vk_R.warm hW s3, vk_R.warm hW s4, va_Z.moved hW.alike s5, va_Zq.moved hW.alike s6⟩, ⟨⟨sa, vk_R.warm hW x1⟩, vx_Zq.moved hW.alike x2, vx_Zq.moved hW.alike x3, qcast_warm hW x4, fun x hx => qdecl_warm hW (x5 x hx)⟩, va_AO.moved hW.alike y1, va_AO.moved hW.alike y2, va_AO.moved hW.alike y3⟩
  have hn := h4 w hw
  rcases (qNws_in w hw).2 with ⟨a, i, b, n, d, rfl⟩ | ⟨a, i, y, rfl⟩
  · exact va_Nw.warmF hW hn
  · exact va_Nw.warmM hW hn
theorem qCx.same {X : qX} {s U : State} (hv : U.vm = s.vm) (h : qCx X s) : qCx X U := by
  have hW : s.WarmedH U.vm := by rw [hv]; exact State.WarmedH.refl s
  exact h.warm hW
theorem qHp.size {X : qX} {g : qG} {I : qI} {J : qJ} {H : Heap} (h : qHp X g I J H) : qrho X g.2.2.1 = H.size := by
  rw [qrho_ge h.1.1]
  have := h.1.2
  have := h.1.1
  omega
/-- a read of a kind -/
theorem qHp.cell {X : qX} {g : qG} {I : qI} {J : qJ} {H : Heap} (h : qHp X g I J H) {a k n : Nat} (hk : g.1 a = some (k, n)) (hn : ¬ k = 110) : 4 ≤ a ∧ a < g.2.2.1 ∧ ((k < 11 ∧ n = qnf k) ∨ (100 ≤ k ∧ k ≤ 105 ∧ n < 2 ^ 31)) ∧ va_at (xD X) qCl (qrho X a, qce X g I J a k n) H := by
  rcases h.2.2 a k n hk with h | h
  · exact absurd h.2.1 hn
  · exact h
theorem va_P1 {D : va_G} {cl : List vw_C} {q : Nat × va_E} {H : Heap} (h : va_at D cl q H) : va_P D cl [q] H := by
  intro k r hk
  cases k with
  | zero => cases hk; exact h
  | succ k => cases hk
theorem qob_k {g : qG} {o c : Nat} (h : qob g o c = true) : ∃ n, g.1 o = some (c, n) := by
  unfold qob at h
  split at h
  · rename_i k n e
    exact ⟨n, by rw [e, Nat.eq_of_beq_eq_true h]⟩
  · cases h
/-- one cell has changed -/
theorem qHp.set {X : qX} {g g' : qG} {I I' : qI} {J J' : qJ} {H H1 : Heap} (h : qHp X g I J H) {a k n : Nat} (hk : g.1 a = some (k, n)) (ha : 4 ≤ a) (hg : g'.1 = g.1 ∧ g'.2.2 = g.2.2) (hA : ∀ b, b ≠ a → g'.2.1 b = g.2.1 b) (hI : ∀ b, b ≠ a → I' b = I b) (hJ : ∀ b, b ≠ a → J' b = J b)
    (he : va_at (xD X) qCl (qrho X a, qce X g' I' J' a k n) H1) (hz : H1.size = H.size) (ho : ∀ q, q ≠ qrho X a → H1[q]? = H[q]?) : qHp X g' I' J' H1 := by
  obtain ⟨⟨h1, h2⟩, h3, h4⟩ := h
  refine ⟨⟨by rw [hg.2]; exact h1, by rw [hz, hg.2]; exact h2⟩, fun q hq => ?_, fun b kb nb hb => ?_⟩
  · rw [ho q (by have := qrho_le (X := X) ha; omega)]
    exact h3 q hq
  · rw [hg.1] at hb
    by_cases hba : b = a
    · subst hba
      rw [hk] at hb
      cases hb
      rcases h4 b k n hk with h5 | ⟨h5, h6, h7, h8⟩
      · omega
      · exact Or.inr ⟨h5, by rw [hg.2]; exact h6, h7, he⟩
    · rcases h4 b kb nb hb with ⟨rfl, h6, h7, h8⟩ | ⟨h5, h6, h7, h8⟩
      · exact Or.inl ⟨rfl, h6, h7, fun j hj => by rw [hI 0 hba]; exact h8 j hj⟩
      · refine Or.inr ⟨h5, by rw [hg.2]; exact h6, h7, ?_⟩
        have e : qce X g' I' J' b kb nb = qce X g I J b kb nb := by
          unfold qce qca qfv
          rw [hA b hba, hI b hba, hJ b hba]
        rw [e]
        exact h8.kept (ho _ (fun z => hba (qrho_inj h5 ha z)))
/-- a new cell -/
theorem qHp.push {X : qX} {g : qG} {I : qI} {J : qJ} {H H1 : Heap} (h : qHp X g I J H) {k n : Nat} (hk : (k < 11 ∧ n = qnf k) ∨ (100 ≤ k ∧ k ≤ 105 ∧ n < 2 ^ 31))
    (he : va_at (xD X) qCl (H.size, qce X (qmk k n g) (qmI g I) (qmJ g J) g.2.2.1 k n) H1) (hz : H1.size = H.size + 1) (ho : ∀ q, q < H.size → H1[q]? = H[q]?) : qHp X (qmk k n g) (qmI g I) (qmJ g J) H1 := by
  have hs := h.size
  obtain ⟨⟨h1, h2⟩, h3, h4⟩ := h
  refine ⟨⟨by show 4 ≤ g.2.2.1 + 1; omega, by show H1.size + 4 = xB X + (g.2.2.1 + 1); omega⟩, fun q hq => ?_, fun b kb nb hb => ?_⟩
  · rw [ho q (by omega)]
    exact h3 q hq
  · by_cases hba : b = g.2.2.1
    · subst hba
      have hb' : some (k, n) = some (kb, nb) := by
        rw [← hb]
        show some (k, n) = va_up g.1 g.2.2.1 (some (k, n)) g.2.2.1
        rw [va_up_self]
      cases hb'
      exact Or.inr ⟨h1, Nat.lt_succ_self _, hk, by rw [hs]; exact he⟩
    · have hb' : g.1 b = some (kb, nb) := by
        rw [← hb]
        show g.1 b = va_up g.1 g.2.2.1 (some (k, n)) b
        rw [va_up_ne _ _ hba]
      have eA : (qmk k n g).2.1 b = g.2.1 b := va_up_ne _ _ hba
      have eI : qmI g I b = I b := va_up_ne _ _ hba
      have eJ : qmJ g J b = J b := va_up_ne _ _ hba
      rcases h4 b kb nb hb' with ⟨rfl, h6, h7, h8⟩ | ⟨h5, h6, h7, h8⟩
      · exact Or.inl ⟨rfl, h6, h7, fun j hj => by rw [eI]; exact h8 j hj⟩
      · refine Or.inr ⟨h5, Nat.lt_succ_of_lt h6, h7, ?_⟩
        have e : qce X (qmk k n g) (qmI g I) (qmJ g J) b kb nb = qce X g I J b kb nb := by
          unfold qce qca qfv
          rw [eA, eI, eJ]
        rw [e]
        refine h8.kept (ho _ ?_)
        rw [qrho_ge h5]
        omega
