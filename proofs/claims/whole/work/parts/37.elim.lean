/-! elimination -/
abbrev gd : Type := Nat → Nat → Int
def sol (p : Int) (m w : Nat) (G : gd) (x : Nat → Int) : Prop := ∀ r, r < m → p ∣ sm (fun k => G r k * x k) w - G r w
def gred (p : Int) (m w : Nat) (G : gd) : Prop := ∀ r k, r < m → k ≤ w → 0 ≤ G r k ∧ G r k < p
def gsw (G : gd) (a b : Nat) : gd := fun r => if r = a then G b else if r = b then G a else G r
theorem sol_sw {p : Int} {m w a b : Nat} {G : gd} (ha : a < m) (hb : b < m) (x : Nat → Int) : sol p m w (gsw G a b) x ↔ sol p m w G x := by
  constructor
  · intro h r hr
    by_cases h1 : r = a
    · have := h b hb
      unfold gsw at this
      by_cases h2 : b = a
      · rw [if_pos h2, h2] at this; rw [h1]; exact this
      · rw [if_neg h2, if_pos rfl] at this; rw [h1]; exact this
    · by_cases h2 : r = b
      · have := h a ha
        unfold gsw at this
        rw [if_pos rfl] at this
        rw [h2]; exact this
      · have := h r hr
        unfold gsw at this
        rw [if_neg h1, if_neg h2] at this
        exact this
  · intro h r hr
    unfold gsw
    by_cases h1 : r = a
    · rw [if_pos h1]; exact h b hb
    · by_cases h2 : r = b
      · rw [if_neg h1, if_pos h2]; exact h a ha
      · rw [if_neg h1, if_neg h2]; exact h r hr
theorem gsw_red {p : Int} {m w a b : Nat} {G : gd} (ha : a < m) (hb : b < m) (h : gred p m w G) : gred p m w (gsw G a b) := by
  intro r k hr hk
  unfold gsw
  by_cases h1 : r = a
  · rw [if_pos h1]; exact h b k hb hk
  · by_cases h2 : r = b
    · rw [if_neg h1, if_pos h2]; exact h a k ha hk
    · rw [if_neg h1, if_neg h2]; exact h r k hr hk
/-- a row less so many times another one -/
def gcl (p : Int) (w : Nat) (G : gd) (r o : Nat) (f : Int) : gd := fun q k => if q = o ∧ k ≤ w then (G o k - f * G r k) % p else G q k
theorem gcl_row {p : Int} {w r o : Nat} {G : gd} {f : Int} (x : Nat → Int) : p ∣ (sm (fun k => gcl p w G r o f o k * x k) w - gcl p w G r o f o w) - ((sm (fun k => G o k * x k) w - G o w) - f * (sm (fun k => G r k * x k) w - G r w)) := by
  have e : ∀ k, k ≤ w → ∃ u, gcl p w G r o f o k = G o k - f * G r k - p * u := fun k hk => by
    unfold gcl
    rw [if_pos ⟨rfl, hk⟩]
    have := Int.emod_add_mul_ediv (G o k - f * G r k) p
    exact ⟨(G o k - f * G r k) / p, by omega⟩
  have h1 : p ∣ sm (fun k => gcl p w G r o f o k * x k) w - (sm (fun k => G o k * x k) w - f * sm (fun k => G r k * x k) w) := by
    rw [← sm_mul, ← sm_sub, ← sm_sub]
    refine sm_dvd (fun k hk => ?_)
    obtain ⟨u, hu⟩ := e k (by omega)
    rw [hu]
    refine ⟨-(u * x k), ?_⟩
    rw [Int.sub_mul, Int.sub_mul, Int.mul_neg, Int.mul_assoc, Int.mul_assoc]
    omega
  obtain ⟨u, hu⟩ := e w (Nat.le_refl w)
  have h2 : p ∣ gcl p w G r o f o w - (G o w - f * G r w) := ⟨-u, by rw [hu, Int.mul_neg]; omega⟩
  have h3 := Int.dvd_sub h1 h2
  rwa [show ∀ a b c d e g : Int, a - (b - c) - (d - (e - g)) = a - d - (b - e - (c - g)) by intros; omega, ← Int.mul_sub] at h3
theorem sol_cl {p : Int} {m w r o : Nat} {G : gd} {f : Int} (hr : r < m) (ho : o < m) (hro : o ≠ r) (x : Nat → Int) : sol p m w (gcl p w G r o f) x ↔ sol p m w G x := by
  have hne : ∀ q, q ≠ o → gcl p w G r o f q = G q := fun q hq => by
    funext k
    unfold gcl
    rw [if_neg (fun h => hq h.1)]
  have hrow := gcl_row (p := p) (w := w) (r := r) (o := o) (G := G) (f := f) x
  constructor
  · intro h q hq
    by_cases h1 : q = o
    · rw [h1]
      have a1 := h o ho
      have a2 := h r hr
      rw [hne r (Ne.symm hro)] at a2
      have a3 := Int.dvd_mul_of_dvd_right (b := f) a2
      have a4 := Int.dvd_add (Int.dvd_sub a1 hrow) a3
      rwa [show ∀ a b c : Int, a - (a - (b - c)) + c = b by intros; omega] at a4
    · have := h q hq
      rwa [hne q h1] at this
  · intro h q hq
    by_cases h1 : q = o
    · rw [h1]
      have a1 := h o ho
      have a3 := Int.dvd_mul_of_dvd_right (b := f) (h r hr)
      have a4 := Int.dvd_add hrow (Int.dvd_sub a1 a3)
      rwa [Int.sub_add_cancel] at a4
    · rw [hne q h1]; exact h q hq
theorem gcl_red {p : Int} (hp : 0 < p) {m w r o : Nat} {G : gd} {f : Int} (h : gred p m w G) : gred p m w (gcl p w G r o f) := by
  intro q k hq hk
  unfold gcl
  split
  · exact ⟨Int.emod_nonneg _ (by omega), Int.emod_lt_of_pos _ hp⟩
  · exact h q k hq hk
/-- behind so many columns -/
def geI (p : Int) (m w k dn : Nat) (fr : Nat → Option Nat) (G0 G : gd) : Prop :=
  (∀ x, sol p m w G x ↔ sol p m w G0 x) ∧ gred p m w G ∧ dn ≤ m ∧
  (∀ c r, c < k → fr c = some r → r < dn ∧ G r c ≠ 0 ∧ ∀ o, o < m → o ≠ r → G o c = 0) ∧
  (∀ c, c < k → fr c = none → ∀ o, dn ≤ o → o < m → G o c = 0) ∧
  (∀ r, r < dn → ∃ c, c < k ∧ fr c = some r) ∧ (∀ c c' r, c < k → c' < k → fr c = some r → fr c' = some r → c = c')
theorem ge_0 {p : Int} {m w : Nat} {G : gd} {fr : Nat → Option Nat} (h : gred p m w G) : geI p m w 0 0 fr G G :=
  ⟨fun _ => Iff.rfl, h, Nat.zero_le _, fun c _ h => absurd h (Nat.not_lt_zero c), fun c h => absurd h (Nat.not_lt_zero c), fun r h => absurd h (Nat.not_lt_zero r), fun c _ _ h => absurd h (Nat.not_lt_zero c)⟩
theorem ge_below {p : Int} {m w k dn : Nat} {fr : Nat → Option Nat} {G0 G : gd} (h : geI p m w k dn fr G0 G) {c o : Nat} (hc : c < k) (h1 : dn ≤ o) (h2 : o < m) : G o c = 0 := by
  cases hf : fr c with
  | none => exact h.2.2.2.2.1 c hc hf o h1 h2
  | some r =>
    have := h.2.2.2.1 c r hc hf
    exact this.2.2 o h2 (by omega)
theorem ge_none {p : Int} {m w k dn : Nat} {fr fr' : Nat → Option Nat} {G0 G : gd} (h : geI p m w k dn fr G0 G) (hz : ∀ o, dn ≤ o → o < m → G o k = 0) (hf : fr' k = none) (hf' : ∀ c, c < k → fr' c = fr c) : geI p m w (k + 1) dn fr' G0 G := by
  obtain ⟨h1, h2, h3, h4, h5, h6, h7⟩ := h
  have hn : ∀ c r, c < k + 1 → fr' c = some r → c < k ∧ fr c = some r := fun c r hc hr => by
    by_cases hk : c = k
    · rw [hk, hf] at hr; cases hr
    · exact ⟨by omega, by rw [← hf' c (by omega)]; exact hr⟩
  refine ⟨h1, h2, h3, fun c r hc hr => h4 c r (hn c r hc hr).1 (hn c r hc hr).2, fun c hc hr o a1 a2 => ?_, fun r hr => ?_, fun c c' r a1 a2 a3 a4 => h7 c c' r (hn c r a1 a3).1 (hn c' r a2 a4).1 (hn c r a1 a3).2 (hn c' r a2 a4).2⟩
  · by_cases hk : c = k
    · rw [hk]; exact hz o a1 a2
    · exact h5 c (by omega) (by rw [← hf' c (by omega)]; exact hr) o a1 a2
  · obtain ⟨c, b1, b2⟩ := h6 r hr
    exact ⟨c, by omega, by rw [hf' c b1]; exact b2⟩
/-- within a column: rows so far cleared -/
def clI (p : Int) (m w k dn o : Nat) (G1 G : gd) : Prop :=
  (∀ x, sol p m w G x ↔ sol p m w G1 x) ∧ gred p m w G ∧ (∀ r c, r < m → c < k → G r c = G1 r c) ∧ (∀ c, G dn c = G1 dn c) ∧ ∀ q, q < o → q < m → q ≠ dn → G q k = 0
theorem cl_0 {p : Int} {m w k dn : Nat} {G1 : gd} (h : gred p m w G1) : clI p m w k dn 0 G1 G1 := ⟨fun _ => Iff.rfl, h, fun _ _ _ _ => rfl, fun _ => rfl, fun q h => absurd h (Nat.not_lt_zero q)⟩
theorem cl_skip {p : Int} {m w k dn o : Nat} {G1 G : gd} (h : clI p m w k dn o G1 G) (hs : o = dn ∨ G o k = 0) : clI p m w k dn (o + 1) G1 G := by
  obtain ⟨h1, h2, h3, h4, h5⟩ := h
  refine ⟨h1, h2, h3, h4, fun q hq hm hd => ?_⟩
  by_cases hqo : q = o
  · rw [hqo]; exact hs.resolve_left (fun e => hd (hqo.trans e))
  · exact h5 q (by omega) hm hd
theorem cl_do {p : Nat} (hp : pr p) {m w k dn o : Nat} {G1 G : gd} (h : clI p m w k dn o G1 G) (hk : k < w) (hd : dn < m) (ho : o < m) (hne : o ≠ dn) (hz : ∀ c, c < k → G1 dn c = 0) (hpv : G1 dn k ≠ 0) : clI p m w k dn (o + 1) G1 (gcl p w G dn o (G o k * iv p (G dn k) % p)) := by
  obtain ⟨h1, h2, h3, h4, h5⟩ := h
  have hp2 := hp.two
  have hoth : ∀ q, q ≠ o → ∀ c, gcl p w G dn o (G o k * iv p (G dn k) % p) q c = G q c := fun q hq c => by
    unfold gcl
    rw [if_neg (fun h => hq h.1)]
  refine ⟨fun x => (sol_cl hd ho hne x).trans (h1 x), gcl_red (by omega) h2, fun r c hr hc => ?_, fun c => by rw [hoth dn (Ne.symm hne)]; exact h4 c, fun q hq hm hqd => ?_⟩
  · by_cases hro : r = o
    · rw [hro]
      unfold gcl
      rw [if_pos ⟨rfl, by omega⟩, h4 c, hz c hc, Int.mul_zero, Int.sub_zero, Int.emod_eq_of_lt (h2 o c ho (by omega)).1 (h2 o c ho (by omega)).2]
      exact h3 o c ho hc
    · rw [hoth r hro]; exact h3 r c hr hc
  · by_cases hqo : q = o
    · rw [hqo]
      unfold gcl
      rw [if_pos ⟨rfl, by omega⟩]
      apply Int.emod_eq_zero_of_dvd
      have hr := h2 dn k hd (by omega)
      have hv := hp.ivu (v := G dn k) (by rw [h4]; exact hpv) hr
      have e1 := Int.emod_add_mul_ediv (G o k * iv p (G dn k)) p
      generalize G o k * iv p (G dn k) % (p : Int) = f at e1 ⊢
      generalize G o k * iv p (G dn k) / (p : Int) = u at e1
      have e2 : f = G o k * iv p (G dn k) - p * u := by omega
      obtain ⟨t, ht⟩ := hv
      refine ⟨u * G dn k - G o k * t, ?_⟩
      rw [e2, Int.sub_mul, Int.mul_assoc, Int.mul_comm (iv p (G dn k)), show G dn k * iv p (G dn k) = p * t + 1 by omega, Int.mul_add, Int.mul_one, Int.mul_sub, Int.mul_assoc, ← Int.mul_assoc (G o k), Int.mul_comm (G o k) p, Int.mul_assoc]
      omega
    · rw [hoth q hqo]; exact h5 q (by omega) hm hqd
theorem ge_some {p : Int} {m w k dn r : Nat} {fr fr' : Nat → Option Nat} {G0 G G2 : gd} (h : geI p m w k dn fr G0 G) (hr : dn ≤ r) (hrm : r < m) (hk : k < w) (hpv : G r k ≠ 0) (hc : clI p m w k dn m (gsw G dn r) G2) (hf : fr' k = some dn) (hf' : ∀ c, c < k → fr' c = fr c) : geI p m w (k + 1) (dn + 1) fr' G0 G2 := by
  have hb := fun c o => ge_below (c := c) (o := o) h
  obtain ⟨h1, h2, h3, h4, h5, h6, h7⟩ := h
  obtain ⟨c1, c2, c3, c4, c5⟩ := hc
  have hdm : dn < m := by omega
  have hsw : ∀ q c, q < m → c < k → gsw G dn r q c = G q c := fun q c hq hc => by
    unfold gsw
    by_cases a1 : q = dn
    · rw [if_pos a1, a1, hb c r hc hr hrm, hb c dn hc (Nat.le_refl _) hdm]
    · by_cases a2 : q = r
      · rw [if_neg a1, if_pos a2, a2, hb c r hc hr hrm, hb c dn hc (Nat.le_refl _) hdm]
      · rw [if_neg a1, if_neg a2]
  have hG : ∀ q c, q < m → c < k → G2 q c = G q c := fun q c hq hc => by rw [c3 q c hq hc, hsw q c hq hc]
  have hcase : ∀ c q, c < k + 1 → fr' c = some q → (c = k ∧ q = dn) ∨ (c < k ∧ fr c = some q) := fun c q hc hq => by
    by_cases hck : c = k
    · rw [hck, hf] at hq; cases hq; exact Or.inl ⟨hck, rfl⟩
    · exact Or.inr ⟨by omega, by rw [← hf' c (by omega)]; exact hq⟩
  refine ⟨fun x => (c1 x).trans ((sol_sw hdm hrm x).trans (h1 x)), c2, by omega, fun c q hc hq => ?_, fun c hc hq o a1 a2 => ?_, fun q hq => ?_, fun c c' q a1 a2 a3 a4 => ?_⟩
  · rcases hcase c q hc hq with ⟨rfl, rfl⟩ | ⟨b1, b2⟩
    · refine ⟨by omega, ?_, fun o ho hne => c5 o ho ho hne⟩
      rw [c4]
      unfold gsw
      rw [if_pos rfl]
      exact hpv
    · have := h4 c q b1 b2
      refine ⟨by omega, by rw [hG q c (by omega) b1]; exact this.2.1, fun o ho hne => by rw [hG o c ho b1]; exact this.2.2 o ho hne⟩
  · by_cases hck : c = k
    · rw [hck, hf] at hq; cases hq
    · rw [hG o c a2 (by omega)]
      exact h5 c (by omega) (by rw [← hf' c (by omega)]; exact hq) o (by omega) a2
  · by_cases hqd : q = dn
    · exact ⟨k, by omega, by rw [hqd]; exact hf⟩
    · obtain ⟨c, b1, b2⟩ := h6 q (by omega)
      exact ⟨c, by omega, by rw [hf' c b1]; exact b2⟩
  · rcases hcase c q a1 a3 with ⟨b1, b2⟩ | ⟨b1, b2⟩
    · rcases hcase c' q a2 a4 with ⟨d1, d2⟩ | ⟨d1, d2⟩
      · omega
      · have := (h4 c' q d1 d2).1; omega
    · rcases hcase c' q a2 a4 with ⟨d1, d2⟩ | ⟨d1, d2⟩
      · have := (h4 c q b1 b2).1; omega
      · exact h7 c c' q b1 d1 b2 d2
theorem ge_no {p : Int} {m w dn r : Nat} {fr : Nat → Option Nat} {G0 G : gd} (h : geI p m w w dn fr G0 G) (h1 : dn ≤ r) (h2 : r < m) (hz : G r w ≠ 0) (x : Nat → Int) : ¬ sol p m w G0 x := by
  intro hx
  have a1 := (h.1 x).mpr hx r h2
  rw [sm_zero (fun k hk => by rw [ge_below h hk h1 h2, Int.zero_mul]), Int.zero_sub] at a1
  have a2 := Int.dvd_neg.mp a1
  have a3 := h.2.1 r w h2 (Nat.le_refl _)
  exact hz (by rw [← Int.emod_eq_of_lt a3.1 a3.2]; exact Int.emod_eq_zero_of_dvd a2)
theorem ge_yes {p : Nat} (hp : pr p) {m w dn : Nat} {fr : Nat → Option Nat} {G0 G : gd} (h : geI p m w w dn fr G0 G) (hz : ∀ r, dn ≤ r → r < m → G r w = 0) (x : Nat → Int) (hx : ∀ k, k < w → x k = match fr k with | some r => G r w * iv p (G r k) % p | none => 0) : sol p m w G0 x := by
  refine (h.1 x).mp (fun r hr => ?_)
  by_cases hd : dn ≤ r
  · rw [sm_zero (fun k hk => by rw [ge_below h hk hd hr, Int.zero_mul]), hz r hd hr, Int.sub_self]
    exact Int.dvd_zero _
  · obtain ⟨c, hc, hf⟩ := h.2.2.2.2.2.1 r (by omega)
    have hpv := h.2.2.2.1 c r hc hf
    have hsum : sm (fun k => G r k * x k) w = G r c * x c := sm_one hc (fun i hi hne => by
      rw [hx i hi]
      cases hfi : fr i with
      | none => exact Int.mul_zero _
      | some q =>
        have hqr : r ≠ q := fun e => hne (h.2.2.2.2.2.2 i c r hi hc (by rw [hfi, e]) hf)
        rw [(h.2.2.2.1 i q hi hfi).2.2 r hr hqr, Int.zero_mul])
    rw [hsum, hx c hc, hf]
    dsimp only
    have hv := hp.ivu hpv.2.1 (h.2.1 r c hr (by omega))
    obtain ⟨t, ht⟩ := hv
    have e1 := Int.emod_add_mul_ediv (G r w * iv p (G r c)) p
    generalize G r w * iv p (G r c) % (p : Int) = f at e1 ⊢
    generalize G r w * iv p (G r c) / (p : Int) = u at e1
    have e2 : f = G r w * iv p (G r c) - p * u := by omega
    refine ⟨G r w * t - G r c * u, ?_⟩
    rw [e2, Int.mul_sub, ← Int.mul_assoc, Int.mul_comm (G r c) (G r w), Int.mul_assoc, show G r c * iv p (G r c) = p * t + 1 by omega, Int.mul_add, Int.mul_one, Int.mul_sub, ← Int.mul_assoc, Int.mul_comm (G r w) p, Int.mul_assoc, ← Int.mul_assoc (G r c), Int.mul_comm (G r c) p, Int.mul_assoc]
    omega
