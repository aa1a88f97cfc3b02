/-! numbers: ints and longs as integers -/
abbrev iI (z : Int) : Int32 := Int32.ofInt z
abbrev iL (z : Int) : Int64 := Int64.ofInt z
theorem nI_iI (n : Nat) : nI n = iI (n : Int) := Int32.ofInt_eq_ofNat.symm
theorem lN_iL (n : Nat) : lN n = iL (n : Int) := Int64.ofInt_eq_ofNat.symm
theorem iI_add (a b : Int) : iI a + iI b = iI (a + b) := (Int32.ofInt_add a b).symm
theorem iI_sub (a b : Int) : iI a - iI b = iI (a - b) := (Int32.ofInt_sub a b).symm
theorem iI_mul (a b : Int) : iI a * iI b = iI (a * b) := (Int32.ofInt_mul a b).symm
theorem iL_add (a b : Int) : iL a + iL b = iL (a + b) := (Int64.ofInt_add a b).symm
theorem iL_sub (a b : Int) : iL a - iL b = iL (a - b) := (Int64.ofInt_sub a b).symm
theorem iL_mul (a b : Int) : iL a * iL b = iL (a * b) := (Int64.ofInt_mul a b).symm
theorem iL_neg (a : Int) : -iL a = iL (-a) := (Int64.ofInt_neg a).symm
theorem iI_toInt {a : Int} (h : -2147483648 ≤ a ∧ a < 2147483648) : (iI a).toInt = a := Int32.toInt_ofInt_of_le (by omega) (by omega)
theorem iL_toInt {a : Int} (h : -9223372036854775808 ≤ a ∧ a < 9223372036854775808) : (iL a).toInt = a := Int64.toInt_ofInt_of_le (by omega) (by omega)
theorem iI_lt {a b : Int} (ha : -2147483648 ≤ a ∧ a < 2147483648) (hb : -2147483648 ≤ b ∧ b < 2147483648) : iI a < iI b ↔ a < b := by
  rw [Int32.lt_iff_toInt_lt, iI_toInt ha, iI_toInt hb]
theorem iI_le {a b : Int} (ha : -2147483648 ≤ a ∧ a < 2147483648) (hb : -2147483648 ≤ b ∧ b < 2147483648) : iI a ≤ iI b ↔ a ≤ b := by
  rw [Int32.le_iff_toInt_le, iI_toInt ha, iI_toInt hb]
theorem iI_eq {a b : Int} (ha : -2147483648 ≤ a ∧ a < 2147483648) (hb : -2147483648 ≤ b ∧ b < 2147483648) : iI a = iI b ↔ a = b := by
  refine ⟨fun h => ?_, fun h => by rw [h]⟩
  have h2 := congrArg Int32.toInt h
  rwa [iI_toInt ha, iI_toInt hb] at h2
theorem iL_lt {a b : Int} (ha : -9223372036854775808 ≤ a ∧ a < 9223372036854775808) (hb : -9223372036854775808 ≤ b ∧ b < 9223372036854775808) : iL a < iL b ↔ a < b := by
  rw [Int64.lt_iff_toInt_lt, iL_toInt ha, iL_toInt hb]
theorem iL_le {a b : Int} (ha : -9223372036854775808 ≤ a ∧ a < 9223372036854775808) (hb : -9223372036854775808 ≤ b ∧ b < 9223372036854775808) : iL a ≤ iL b ↔ a ≤ b := by
  rw [Int64.le_iff_toInt_le, iL_toInt ha, iL_toInt hb]
theorem iL_eq {a b : Int} (ha : -9223372036854775808 ≤ a ∧ a < 9223372036854775808) (hb : -9223372036854775808 ≤ b ∧ b < 9223372036854775808) : iL a = iL b ↔ a = b := by
  refine ⟨fun h => ?_, fun h => by rw [h]⟩
  have h2 := congrArg Int64.toInt h
  rwa [iL_toInt ha, iL_toInt hb] at h2
theorem iI_l {a : Int} (h : -2147483648 ≤ a ∧ a < 2147483648) : (iI a).toInt64 = iL a := Int64.toInt_inj.mp (by rw [Int32.toInt_toInt64, iI_toInt h, iL_toInt (by omega)])
theorem iL_i (a : Int) : (iL a).toInt32 = iI a := Int64.toInt32_ofInt
theorem iI_of (x : Int32) : ∃ z : Int, x = iI z ∧ -2147483648 ≤ z ∧ z < 2147483648 := by
  refine ⟨x.toInt, (Int32.ofInt_toInt x).symm, ?_, ?_⟩
  · have := Int32.le_toInt x; omega
  · have := Int32.toInt_lt x; omega
theorem iI_z0 : (0 : Int32) = iI 0 := by decide +kernel
theorem iI_z1 : (1 : Int32) = iI 1 := by decide +kernel
theorem iI_zm1 : (-1 : Int32) = iI (-1) := by decide +kernel
theorem iI_rem {a p : Int} (ha : 0 ≤ a ∧ a < 2147483648) (hp : 0 < p ∧ p < 2147483648) : qrem (iI a) (iI p) = iI (a % p) := by
  obtain ⟨n, rfl⟩ := Int.eq_ofNat_of_zero_le ha.1
  obtain ⟨m, rfl⟩ := Int.eq_ofNat_of_zero_le (Int.le_of_lt hp.1)
  rw [← nI_iI, ← nI_iI, qrem, pk_rem (by omega) (by omega) (by omega), nI_iI, Int.natCast_emod]
theorem iI_div {a p : Int} (ha : 0 ≤ a ∧ a < 2147483648) (hp : 0 < p ∧ p < 2147483648) : iI a / iI p = iI (a / p) := by
  obtain ⟨n, rfl⟩ := Int.eq_ofNat_of_zero_le ha.1
  obtain ⟨m, rfl⟩ := Int.eq_ofNat_of_zero_le (Int.le_of_lt hp.1)
  rw [← nI_iI, ← nI_iI, pk_div (by omega) (by omega) (by omega), nI_iI, Int.natCast_ediv]
theorem iL_rem {a p : Int} (ha : -9223372036854775808 < a ∧ a < 9223372036854775808) (hp : 0 < p ∧ p < 9223372036854775808) : qremL (iL a) (iL p) = iL (a.tmod p) := by
  have hd : iL a / iL p = iL (a.tdiv p) := by
    apply Int64.toInt_inj.mp
    rw [Int64.toInt_div_of_ne_left, iL_toInt (by omega), iL_toInt (by omega), iL_toInt]
    · have h1 := Int.natAbs_tdiv_le_natAbs a p
      omega
    · intro h
      have h2 := congrArg Int64.toInt h
      rw [iL_toInt (by omega)] at h2
      have h3 : Int64.minValue.toInt = -9223372036854775808 := by decide +kernel
      omega
  rw [qremL, hd, iL_mul, iL_sub, Int.tmod_def, Int.mul_comm p]
theorem qmin_iI {a b : Int} (ha : -2147483648 ≤ a ∧ a < 2147483648) (hb : -2147483648 ≤ b ∧ b < 2147483648) : qmin (iI a) (iI b) = iI (min a b) := by
  unfold qmin
  by_cases h : b < a
  · rw [if_pos ((iI_lt hb ha).mpr h), Int.min_eq_right (by omega)]
  · rw [if_neg (fun h2 => h ((iI_lt hb ha).mp h2)), Int.min_eq_left (by omega)]
theorem qmax_iI {a b : Int} (ha : -2147483648 ≤ a ∧ a < 2147483648) (hb : -2147483648 ≤ b ∧ b < 2147483648) : qmax (iI a) (iI b) = iI (max a b) := by
  unfold qmax
  by_cases h : a < b
  · rw [if_pos ((iI_lt ha hb).mpr h), Int.max_eq_right (by omega)]
  · rw [if_neg (fun h2 => h ((iI_lt ha hb).mp h2)), Int.max_eq_left (by omega)]
theorem qmin_nI {a b : Nat} (ha : a < 2 ^ 31) (hb : b < 2 ^ 31) : qmin (nI a) (nI b) = nI (min a b) := by
  rw [nI_iI, nI_iI, qmin_iI (by omega) (by omega), nI_iI]
  congr 1
  omega
theorem qmax_nI {a b : Nat} (ha : a < 2 ^ 31) (hb : b < 2 ^ 31) : qmax (nI a) (nI b) = nI (max a b) := by
  rw [nI_iI, nI_iI, qmax_iI (by omega) (by omega), nI_iI]
  congr 1
  omega
/-! reading after writing -/
section ZUP
variable {α : Type} {I : Nat → Nat → α} {a b k j : Nat} {v : α}
theorem zu_s : qw I a k v a k = v := by unfold qw va_up; rw [if_pos rfl, if_pos rfl]
theorem zu_k (h : j ≠ k) : qw I a k v a j = I a j := by unfold qw va_up; rw [if_pos rfl, if_neg h]
theorem zu_a (h : b ≠ a) : qw I a k v b = I b := by unfold qw va_up; rw [if_neg h]
theorem zu_ab (h : b ≠ a) : qw I a k v b j = I b j := by rw [zu_a h]
theorem zu_if : qw I a k v b j = if b = a ∧ j = k then v else I b j := by
  by_cases h : b = a
  · subst h
    by_cases h2 : j = k
    · subst h2; rw [zu_s, if_pos ⟨rfl, rfl⟩]
    · rw [zu_k h2, if_neg (fun h => h2 h.2)]
  · rw [zu_a h, if_neg (fun h2 => h h2.1)]
theorem zv_s {f : Nat → α} : va_up I a f a = f := by unfold va_up; rw [if_pos rfl]
theorem zv_a {f : Nat → α} (h : b ≠ a) : va_up I a f b = I b := by unfold va_up; rw [if_neg h]
end ZUP
/-! the primes' fields, by computation -/
def prB (n : Nat) : Bool := Nat.ble 2 n && (List.range 32).all (fun t => !(Nat.ble 2 t) || (!(Nat.ble (t * t) n) || !(Nat.beq (n % t) 0)))
def fldB (p : Nat) : Bool := (List.range p).all (fun a => Nat.beq a 0 || Nat.beq (a ^ (p - 2) * a % p) 1)
set_option maxRecDepth 100000 in
theorem fld_all : (List.range 998).all (fun p => !(prB p) || fldB p) = true := by decide +kernel
