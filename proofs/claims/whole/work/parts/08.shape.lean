/-! the cells behind the two constructors and the law's own row: kinds, references that stay -/
def qk0 : List (List (Option (Nat × Nat))) := [[none, none, none, none, some (9, 18), some (8, 2), some (100, 320), some (1, 5), some (100, 9), some (100, 8), some (100, 320), some (4, 7), some (0, 9), some (100, 24), some (6, 2), some (100, 24)],
  [some (6, 2), some (100, 24), some (6, 2), some (100, 24), some (6, 2), some (100, 24), some (6, 2), some (100, 24), some (103, 4), some (6, 2), some (100, 24), some (6, 2), some (100, 24), some (6, 2), some (100, 24), some (6, 2)],
  [some (100, 24), some (3, 3), some (103, 24), some (6, 2), some (100, 24), some (6, 2), some (100, 24), some (6, 2), some (100, 24), some (6, 2), some (100, 24), some (6, 2), some (100, 24), some (6, 2), some (100, 24), some (6, 2)],
  [some (100, 24), some (6, 2), some (100, 24), some (6, 2), some (100, 24), some (6, 2), some (100, 24), some (6, 2), some (100, 24), some (6, 2), some (100, 24), some (6, 2), some (100, 24), some (6, 2), some (100, 24), some (6, 2)],
  [some (100, 24), some (6, 2), some (100, 24), some (6, 2), some (100, 24), some (6, 2), some (100, 24), some (6, 2), some (100, 24), some (6, 2), some (100, 24), some (6, 2), some (100, 24), some (6, 2), some (100, 24), some (6, 2)],
  [some (100, 24), some (6, 2), some (100, 24), some (5, 3), some (100, 25), some (100, 25), some (100, 25), some (6, 2), some (100, 24), some (7, 4), some (100, 8), some (100, 192), some (100, 60), some (7, 4), some (100, 8), some (100, 192)],
  [some (100, 60), some (7, 4), some (100, 8), some (100, 192), some (100, 60), some (2, 3), some (104, 40), some (105, 4), some (100, 6), some (10, 31), some (101, 320), some (100, 41), some (100, 41), some (100, 11480), some (100, 5), some (100, 381)],
  [some (100, 381), some (100, 381), some (100, 15240), some (100, 1200), some (100, 6), some (100, 600), some (100, 24), some (102, 1), none, none, none, none, none, none, none, none]]
def qK0 (a : Nat) : Option (Nat × Nat) := qnth (qnth qk0 (a / 16) []) (a % 16) none
def qa0 : List (List (List (Option Nat))) := [[[], [], [], [], [some 5, some 7, some 11, some 12, some 33, some 83, some 87, some 89, some 93, some 97, some 101, some 103, some 104], [some 6], [], [some 10, some 8, some 9], [], [], [], [some 5, some 7], [some 13, some 14, some 16, some 18, some 20, some 22, some 24], [], [some 15], []],
  [[some 17], [], [some 19], [], [some 21], [], [some 23], [], [some 25, some 27, some 29, some 31], [some 26], [], [some 28], [], [some 30], [], [some 32]],
  [[], [some 12, some 34], [some 35, some 37, some 39, some 41, some 43, some 45, some 47, some 49, some 51, some 53, some 55, some 57, some 59, some 61, some 63, some 65, some 67, some 69, some 71, some 73, some 75, some 77, some 79, some 81], [some 36], [], [some 38], [], [some 40], [], [some 42], [], [some 44], [], [some 46], [], [some 48]],
  [[], [some 50], [], [some 52], [], [some 54], [], [some 56], [], [some 58], [], [some 60], [], [some 62], [], [some 64]],
  [[], [some 66], [], [some 68], [], [some 70], [], [some 72], [], [some 74], [], [some 76], [], [some 78], [], [some 80]],
  [[], [some 82], [], [], [], [], [], [some 88], [], [some 90, some 91, some 92], [], [], [], [some 94, some 95, some 96], [], []],
  [[], [some 98, some 99, some 100], [], [], [], [some 102], [], [], [], [none, some 106, none, none, none, none, none, none, none, some 107, some 108, some 109, some 110, none, none, none, none, some 111, some 112, some 113, some 114, none, none, none, some 115, none, some 116, none, none, some 117, some 118], [], [], [], [], [], []],
  [[], [], [], [], [], [], [], []]]
def qA0 (a k : Nat) : Option Nat := qnth (qnth (qnth qa0 (a / 16) []) (a % 16) []) k none
def qSh (g : qG) : Prop := (∀ a t, qK0 a = some t → g.1 a = some t) ∧ ∀ a k b, qA0 a k = some b → g.2.1 a k = some b
theorem qSh.k {g : qG} (h : qSh g) {a : Nat} {t : Nat × Nat} (hk : qK0 a = some t) : g.1 a = some t := h.1 a t hk
theorem qSh.a {g : qG} (h : qSh g) {a k b : Nat} (hk : qA0 a k = some b) : g.2.1 a k = some b := h.2 a k b hk
theorem qob_of {g : qG} {a c n : Nat} (h : g.1 a = some (c, n)) : qob g a c = true := by
  unfold qob
  rw [h]
  exact Nat.beq_refl c
theorem qSh.o {g : qG} (h : qSh g) {a c n : Nat} (hk : qK0 a = some (c, n)) : qob g a c = true := qob_of (h.k hk)
/-- a SERIES, a STATE, a CODE at an id: its rows lie behind it -/
def qSer (g : qG) (a : Nat) : Prop := g.1 a = some (6, 2) ∧ g.2.1 a 0 = some (a + 1) ∧ g.1 (a + 1) = some (100, 24)
theorem qSer.o {g : qG} {a : Nat} (h : qSer g a) : qob g a 6 = true := qob_of h.1
theorem qSer.a0 {g : qG} {a : Nat} (h : qSer g a) : g.2.1 a 0 = some (a + 1) := h.2.1
theorem qSer.k0 {g : qG} {a : Nat} (h : qSer g a) : g.1 (a + 1) = some (100, 24) := h.2.2
def qSta (g : qG) (a : Nat) : Prop := g.1 a = some (7, 4) ∧ (g.2.1 a 0 = some (a + 1) ∧ g.1 (a + 1) = some (100, 8)) ∧ (g.2.1 a 1 = some (a + 2) ∧ g.1 (a + 2) = some (100, 192)) ∧ g.2.1 a 2 = some (a + 3) ∧ g.1 (a + 3) = some (100, 60)
theorem qSta.o {g : qG} {a : Nat} (h : qSta g a) : qob g a 7 = true := qob_of h.1
theorem qSta.a0 {g : qG} {a : Nat} (h : qSta g a) : g.2.1 a 0 = some (a + 1) := h.2.1.1
theorem qSta.k0 {g : qG} {a : Nat} (h : qSta g a) : g.1 (a + 1) = some (100, 8) := h.2.1.2
theorem qSta.a1 {g : qG} {a : Nat} (h : qSta g a) : g.2.1 a 1 = some (a + 2) := h.2.2.1.1
theorem qSta.k1 {g : qG} {a : Nat} (h : qSta g a) : g.1 (a + 2) = some (100, 192) := h.2.2.1.2
theorem qSta.a2 {g : qG} {a : Nat} (h : qSta g a) : g.2.1 a 2 = some (a + 3) := h.2.2.2.1
theorem qSta.k2 {g : qG} {a : Nat} (h : qSta g a) : g.1 (a + 3) = some (100, 60) := h.2.2.2.2
def qCod (g : qG) (a n : Nat) : Prop := g.1 a = some (1, 5) ∧ (g.2.1 a 0 = some (a + 3) ∧ g.1 (a + 3) = some (100, n)) ∧ (g.2.1 a 1 = some (a + 1) ∧ g.1 (a + 1) = some (100, 9)) ∧ (g.2.1 a 2 = some (a + 2) ∧ g.1 (a + 2) = some (100, 8)) ∧ n < 2 ^ 31
theorem qCod.o {g : qG} {a n : Nat} (h : qCod g a n) : qob g a 1 = true := qob_of h.1
theorem qCod.a0 {g : qG} {a n : Nat} (h : qCod g a n) : g.2.1 a 0 = some (a + 3) := h.2.1.1
theorem qCod.k0 {g : qG} {a n : Nat} (h : qCod g a n) : g.1 (a + 3) = some (100, n) := h.2.1.2
theorem qCod.a1 {g : qG} {a n : Nat} (h : qCod g a n) : g.2.1 a 1 = some (a + 1) := h.2.2.1.1
theorem qCod.k1 {g : qG} {a n : Nat} (h : qCod g a n) : g.1 (a + 1) = some (100, 9) := h.2.2.1.2
theorem qCod.a2 {g : qG} {a n : Nat} (h : qCod g a n) : g.2.1 a 2 = some (a + 2) := h.2.2.2.1.1
theorem qCod.k2 {g : qG} {a n : Nat} (h : qCod g a n) : g.1 (a + 2) = some (100, 8) := h.2.2.2.1.2
theorem qCod.n {g : qG} {a n : Nat} (h : qCod g a n) : n < 2 ^ 31 := h.2.2.2.2
theorem qSh_ser : ∀ a, a < 120 → qK0 a = some (6, 2) → qA0 a 0 = some (a + 1) ∧ qK0 (a + 1) = some (100, 24) := by decide +kernel
theorem qSh.ser {g : qG} (h : qSh g) {a : Nat} (hk : qK0 a = some (6, 2)) (ha : a < 120) : qSer g a := ⟨h.k hk, h.a (qSh_ser a ha hk).1, h.k (qSh_ser a ha hk).2⟩
theorem qSh_sta : ∀ a, a < 120 → qK0 a = some (7, 4) → (qA0 a 0 = some (a + 1) ∧ qK0 (a + 1) = some (100, 8)) ∧ (qA0 a 1 = some (a + 2) ∧ qK0 (a + 2) = some (100, 192)) ∧ qA0 a 2 = some (a + 3) ∧ qK0 (a + 3) = some (100, 60) := by decide +kernel
theorem qSh.sta {g : qG} (h : qSh g) {a : Nat} (hk : qK0 a = some (7, 4)) (ha : a < 120) : qSta g a := by
  obtain ⟨⟨h1, h2⟩, ⟨h3, h4⟩, h5, h6⟩ := qSh_sta a ha hk
  exact ⟨h.k hk, ⟨h.a h1, h.k h2⟩, ⟨h.a h3, h.k h4⟩, h.a h5, h.k h6⟩
theorem qSh.draft {g : qG} (h : qSh g) : qCod g 7 320 := ⟨h.k rfl, ⟨h.a rfl, h.k rfl⟩, ⟨h.a rfl, h.k rfl⟩, ⟨h.a rfl, h.k rfl⟩, by decide⟩
theorem qSh_stack : ∀ j, j < 24 → qA0 34 j = some (35 + 2 * j) ∧ qK0 (35 + 2 * j) = some (6, 2) := by decide +kernel
theorem qSh.stack {g : qG} (h : qSh g) {j : Nat} (hj : j < 24) : g.2.1 34 j = some (35 + 2 * j) := h.a (qSh_stack j hj).1
theorem qSh.stackS {g : qG} (h : qSh g) {j : Nat} (hj : j < 24) : qSer g (35 + 2 * j) := h.ser (qSh_stack j hj).2 (by omega)
theorem qSh_cubic : ∀ j, j < 4 → qA0 24 j = some (25 + 2 * j) ∧ qK0 (25 + 2 * j) = some (6, 2) := by decide +kernel
theorem qSh.cubic {g : qG} (h : qSh g) {j : Nat} (hj : j < 4) : g.2.1 24 j = some (25 + 2 * j) := h.a (qSh_cubic j hj).1
theorem qSh.cubicS {g : qG} (h : qSh g) {j : Nat} (hj : j < 4) : qSer g (25 + 2 * j) := h.ser (qSh_cubic j hj).2 (by omega)
abbrev qrem (x y : Int32) : Int32 := x - x / y * y
abbrev qremL (x y : Int64) : Int64 := x - x / y * y
abbrev qshl (x y : Int32) : Int32 := x <<< (y &&& 31)
abbrev qshr (x y : Int32) : Int32 := x >>> (y &&& 31)
abbrev qushr (x y : Int32) : Int32 := (x.toUInt32 >>> (y.toUInt32 &&& Int32.toUInt32 31)).toInt32
abbrev qshlL (x : Int64) (y : Int32) : Int64 := x <<< (y.toInt64 &&& 63)
abbrev qushrL (x : Int64) (y : Int32) : Int64 := (x.toUInt64 >>> (y.toInt64.toUInt64 &&& Int64.toUInt64 63)).toInt64
abbrev qmin (x y : Int32) : Int32 := if y < x then y else x
abbrev qmax (x y : Int32) : Int32 := if x < y then y else x
theorem nI_one : nI 1 = 1 := by decide +kernel
theorem kc_m8 : Int32.ofInt (-8) = (-8) := by decide +kernel
theorem kc_m1 : Int32.ofInt (-1) = (-1) := by decide +kernel
theorem kc_0 : Int32.ofInt (0) = (nI 0) := by decide +kernel
theorem kc_1 : Int32.ofInt (1) = (nI 1) := by decide +kernel
theorem kc_2 : Int32.ofInt (2) = (nI 2) := by decide +kernel
theorem kc_3 : Int32.ofInt (3) = (nI 3) := by decide +kernel
theorem kc_4 : Int32.ofInt (4) = (nI 4) := by decide +kernel
theorem kc_5 : Int32.ofInt (5) = (nI 5) := by decide +kernel
theorem kc_7 : Int32.ofInt (7) = (nI 7) := by decide +kernel
theorem kb_m2 : (Int8.ofInt (-2)).toInt32 = (-2) := by decide +kernel
theorem kb_6 : (Int8.ofInt (6)).toInt32 = (nI 6) := by decide +kernel
theorem kb_7 : (Int8.ofInt (7)).toInt32 = (nI 7) := by decide +kernel
theorem kb_8 : (Int8.ofInt (8)).toInt32 = (nI 8) := by decide +kernel
theorem kb_9 : (Int8.ofInt (9)).toInt32 = (nI 9) := by decide +kernel
theorem kb_10 : (Int8.ofInt (10)).toInt32 = (nI 10) := by decide +kernel
theorem kb_11 : (Int8.ofInt (11)).toInt32 = (nI 11) := by decide +kernel
theorem kb_12 : (Int8.ofInt (12)).toInt32 = (nI 12) := by decide +kernel
theorem kb_13 : (Int8.ofInt (13)).toInt32 = (nI 13) := by decide +kernel
theorem kb_14 : (Int8.ofInt (14)).toInt32 = (nI 14) := by decide +kernel
theorem kb_15 : (Int8.ofInt (15)).toInt32 = (nI 15) := by decide +kernel
theorem kb_16 : (Int8.ofInt (16)).toInt32 = (nI 16) := by decide +kernel
theorem kb_24 : (Int8.ofInt (24)).toInt32 = (nI 24) := by decide +kernel
theorem kb_25 : (Int8.ofInt (25)).toInt32 = (nI 25) := by decide +kernel
theorem kb_32 : (Int8.ofInt (32)).toInt32 = (nI 32) := by decide +kernel
theorem kb_33 : (Int8.ofInt (33)).toInt32 = (nI 33) := by decide +kernel
theorem kb_40 : (Int8.ofInt (40)).toInt32 = (nI 40) := by decide +kernel
theorem kb_41 : (Int8.ofInt (41)).toInt32 = (nI 41) := by decide +kernel
theorem kb_42 : (Int8.ofInt (42)).toInt32 = (nI 42) := by decide +kernel
theorem kb_43 : (Int8.ofInt (43)).toInt32 = (nI 43) := by decide +kernel
theorem kb_44 : (Int8.ofInt (44)).toInt32 = (nI 44) := by decide +kernel
theorem kb_45 : (Int8.ofInt (45)).toInt32 = (nI 45) := by decide +kernel
theorem kb_47 : (Int8.ofInt (47)).toInt32 = (nI 47) := by decide +kernel
theorem kb_48 : (Int8.ofInt (48)).toInt32 = (nI 48) := by decide +kernel
theorem kb_50 : (Int8.ofInt (50)).toInt32 = (nI 50) := by decide +kernel
theorem kb_57 : (Int8.ofInt (57)).toInt32 = (nI 57) := by decide +kernel
theorem kb_59 : (Int8.ofInt (59)).toInt32 = (nI 59) := by decide +kernel
theorem kb_60 : (Int8.ofInt (60)).toInt32 = (nI 60) := by decide +kernel
theorem kb_61 : (Int8.ofInt (61)).toInt32 = (nI 61) := by decide +kernel
theorem kb_63 : (Int8.ofInt (63)).toInt32 = (nI 63) := by decide +kernel
theorem kb_94 : (Int8.ofInt (94)).toInt32 = (nI 94) := by decide +kernel
theorem kb_97 : (Int8.ofInt (97)).toInt32 = (nI 97) := by decide +kernel
theorem kb_99 : (Int8.ofInt (99)).toInt32 = (nI 99) := by decide +kernel
theorem kb_100 : (Int8.ofInt (100)).toInt32 = (nI 100) := by decide +kernel
theorem kb_104 : (Int8.ofInt (104)).toInt32 = (nI 104) := by decide +kernel
theorem kb_109 : (Int8.ofInt (109)).toInt32 = (nI 109) := by decide +kernel
theorem kb_112 : (Int8.ofInt (112)).toInt32 = (nI 112) := by decide +kernel
theorem kb_115 : (Int8.ofInt (115)).toInt32 = (nI 115) := by decide +kernel
theorem kb_120 : (Int8.ofInt (120)).toInt32 = (nI 120) := by decide +kernel
theorem ks_177 : (Int16.ofInt (177)).toInt32 = (nI 177) := by decide +kernel
theorem ks_192 : (Int16.ofInt (192)).toInt32 = (nI 192) := by decide +kernel
theorem ks_200 : (Int16.ofInt (200)).toInt32 = (nI 200) := by decide +kernel
theorem ks_201 : (Int16.ofInt (201)).toInt32 = (nI 201) := by decide +kernel
theorem ks_255 : (Int16.ofInt (255)).toInt32 = (nI 255) := by decide +kernel
theorem ks_280 : (Int16.ofInt (280)).toInt32 = (nI 280) := by decide +kernel
theorem ks_320 : (Int16.ofInt (320)).toInt32 = (nI 320) := by decide +kernel
theorem ks_381 : (Int16.ofInt (381)).toInt32 = (nI 381) := by decide +kernel
theorem ks_600 : (Int16.ofInt (600)).toInt32 = (nI 600) := by decide +kernel
theorem ks_996 : (Int16.ofInt (996)).toInt32 = (nI 996) := by decide +kernel
theorem ks_997 : (Int16.ofInt (997)).toInt32 = (nI 997) := by decide +kernel
theorem ks_999 : (Int16.ofInt (999)).toInt32 = (nI 999) := by decide +kernel
theorem ks_1000 : (Int16.ofInt (1000)).toInt32 = (nI 1000) := by decide +kernel
theorem ks_1200 : (Int16.ofInt (1200)).toInt32 = (nI 1200) := by decide +kernel
theorem ks_11480 : (Int16.ofInt (11480)).toInt32 = (nI 11480) := by decide +kernel
theorem ks_15240 : (Int16.ofInt (15240)).toInt32 = (nI 15240) := by decide +kernel
theorem kn_252645135 : Int32.ofNat 252645135 = (nI 252645135) := by decide +kernel
theorem kn_858993459 : Int32.ofNat 858993459 = (nI 858993459) := by decide +kernel
theorem kn_1431655765 : Int32.ofNat 1431655765 = (nI 1431655765) := by decide +kernel
theorem kn_4293967296 : Int32.ofNat 4293967296 = (-1000000) := by decide +kernel
theorem kN_2 : Int64.ofNat 2 = (lN 2) := by decide +kernel
theorem kN_3 : Int64.ofNat 3 = (lN 3) := by decide +kernel
theorem kN_4 : Int64.ofNat 4 = (lN 4) := by decide +kernel
theorem kN_5 : Int64.ofNat 5 = (lN 5) := by decide +kernel
theorem kN_6 : Int64.ofNat 6 = (lN 6) := by decide +kernel
theorem kN_7 : Int64.ofNat 7 = (lN 7) := by decide +kernel
theorem kN_9 : Int64.ofNat 9 = (lN 9) := by decide +kernel
theorem kN_40 : Int64.ofNat 40 = (lN 40) := by decide +kernel
theorem kN_996 : Int64.ofNat 996 = (lN 996) := by decide +kernel
theorem kN_4294967295 : Int64.ofNat 4294967295 = (lN 4294967295) := by decide +kernel
theorem kN_1442695040888963407 : Int64.ofNat 1442695040888963407 = (lN 1442695040888963407) := by decide +kernel
theorem kN_6364136223846793005 : Int64.ofNat 6364136223846793005 = (lN 6364136223846793005) := by decide +kernel
theorem kl_0 : Int64.ofNat 0 = (lN 0) := by decide +kernel
theorem kl_1 : Int64.ofNat 1 = (lN 1) := by decide +kernel
