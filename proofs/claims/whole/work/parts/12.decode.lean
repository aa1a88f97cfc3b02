/-! the program tables are what the code decodes to -/
def qdr (cc : ByteArray) : Nat → List (Option qE) → Bool
  | _, [] => true
  | pc, none :: r => qdr cc (pc + 1) r
  | pc, some x :: r => decide (decode cc pc = .ok (x.1, x.2.1)) && qdr cc (pc + 1) r
def qdl (cc : ByteArray) : Nat → List (List (Option qE)) → Bool
  | _, [] => true
  | k, r :: l => qdr cc (16 * k) r && qdl cc (k + 1) l
def qdok (m : Nat) : Bool := qdl (qYm m).2.1 0 (qpm m)
set_option maxRecDepth 100000 in
theorem qd_44 : ∀ k, k < 44 → qdok (0 + k) = true := by decide +kernel
set_option maxRecDepth 100000 in
theorem qd_91 : ∀ k, k < 47 → qdok (44 + k) = true := by decide +kernel
set_option maxRecDepth 100000 in
theorem qd_145 : ∀ k, k < 54 → qdok (91 + k) = true := by decide +kernel
set_option maxRecDepth 100000 in
theorem qd_200 : ∀ k, k < 55 → qdok (145 + k) = true := by decide +kernel
set_option maxRecDepth 100000 in
theorem qd_240 : ∀ k, k < 40 → qdok (200 + k) = true := by decide +kernel
set_option maxRecDepth 100000 in
theorem qd_270 : ∀ k, k < 30 → qdok (240 + k) = true := by decide +kernel
theorem qdl_split (cc : ByteArray) : ∀ (n k : Nat) (l : List (List (Option qE))), qdl cc k l = (qdl cc k (l.take n) && qdl cc (k + n) (l.drop n))
  | 0, k, l => by simp [qdl]
  | n + 1, k, [] => by simp [qdl]
  | n + 1, k, r :: l => by
    simp only [List.take_succ_cons, List.drop_succ_cons, qdl]
    rw [qdl_split cc n (k + 1) l, Bool.and_assoc, Nat.add_assoc, Nat.add_comm 1 n]
