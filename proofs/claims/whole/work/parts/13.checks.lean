def qnps : List (List Nat) := [[0, 2, 1, 1, 3, 2, 1, 3, 2, 2, 2, 1, 2, 1, 1, 1], [1, 1, 2, 2, 0, 2, 1, 2, 1, 1, 0, 1, 2, 1, 0, 1], [0, 2, 1, 1, 0, 0, 0, 1, 1, 1, 0, 3, 3, 2, 1, 2], [1, 0, 0, 1, 0, 1, 1, 1, 1, 2, 2, 1, 1, 1, 1, 1], [1, 2, 1, 0, 0, 2, 3, 2, 0, 0, 1, 1, 1, 1, 0, 0], [1, 2, 2, 2, 2, 2, 2, 1, 0, 0, 0, 0, 0, 0, 0, 0], [0, 1, 0, 5, 1, 1, 1, 1, 0, 1, 0, 1, 2, 1, 2, 1], [2, 1, 2, 1, 0, 2, 2, 2, 3, 6, 5, 2, 1, 2, 2, 2], [1, 0, 0, 1, 1, 0, 0, 1, 1, 1, 0, 1, 1, 1, 0, 4], [2, 0, 0, 3, 2, 1, 1, 5, 1, 0, 0, 0, 0, 2, 1, 3], [1, 0, 2, 0, 0, 0, 0, 0, 0, 1, 0, 1, 0, 0, 1, 2], [1, 4, 1, 1, 1, 2, 2, 3, 2, 1, 2, 2, 3, 3, 2, 2], [4, 2, 4, 1, 2, 1, 1, 1, 1, 3, 1, 2, 2, 1, 2, 2], [3, 3, 2, 0, 3, 1, 1, 1, 2, 1, 0, 0, 1, 0, 1, 1], [2, 2, 1, 2, 1, 2, 1, 1, 1, 2, 2, 1, 0, 0, 2, 1], [0, 2, 0, 0, 2, 2, 3, 4, 2, 1, 1, 1, 6, 5, 2, 4], [3, 2, 2, 1, 2, 1, 1, 0, 1, 1, 1, 1, 2, 4, 1]]
def qNp (m : Nat) : Nat := qnth (qnth qnps (m / 16) []) (m % 16) 99
set_option maxRecDepth 100000 in
theorem qNp_ok : ∀ m, m < 271 → (parseMethodDescriptor (qYm m).1.desc).map (fun d => d.parameters.length) = some (qNp m) := by decide +kernel
def qMt (m : Nat) : qMe := qnth qMts m (9999, 9, 9999, 9999, 9999)
/-- the type of a field: 0 int, 1 long, 2 a reference, 3 boolean -/
def qFt (c k : Nat) : Nat := match (qTb c k).2.2.1 with
  | "I" => 0
  | "J" => 1
  | "Z" => 3
  | _ => 2
def qFm (own ix a b : Nat) : Bool := qFls.any (fun e => Nat.beq e.2.1 own && (Nat.beq e.2.2.1 ix && (Nat.beq e.2.2.2.1 a && Nat.beq e.2.2.2.2.1 b)))
def qLm (own ix c ne : Nat) : Bool := qMls.any (fun e => Nat.beq e.2.1 own && (Nat.beq e.2.2.1 ix && (Nat.beq e.2.2.2.1 c && Nat.beq e.2.2.2.2 ne)))
def qKm (own ix c : Nat) : Bool := qCks.any (fun e => Nat.beq e.2.1 own && (Nat.beq e.2.2.1 ix && Nat.beq e.2.2.2 c))
def qIm (own ix v : Nat) : Bool := qCis.any (fun e => Nat.beq e.2.1 own && (Nat.beq e.2.2.1 ix && Nat.beq e.2.2.2 v))
def qJm (own ix v : Nat) : Bool := qCjs.any (fun e => Nat.beq e.2.1 own && (Nat.beq e.2.2.1 ix && Nat.beq e.2.2.2 v))
/-- strings: own 10, entries 110, 152, 154 -/
def qSm (own ix a : Nat) : Bool := Nat.beq own 10 && ((Nat.beq ix 110 && Nat.beq a 1) || ((Nat.beq ix 152 && Nat.beq a 2) || (Nat.beq ix 154 && Nat.beq a 3)))
def qRt (m : Nat) : Nat := match (qYm m).2.2.2 with
  | none => 9
  | some .int => 0
  | some .boolean => 3
  | some .long => 1
  | some (.object _) => 2
  | _ => 8
def qcall (own ix c n t : Nat) (sp : Bool) : Bool := match Nat.ble 1000 c with
  | true => qLm own ix c 0 && (match c with
    | 1000 => sp && (Nat.beq n 0 && Nat.beq t 2)
    | 1001 => Nat.beq n 2 && Nat.beq t 1
    | 1002 => Nat.beq n 2 && Nat.beq t 1
    | 1003 => Nat.beq n 5 && Nat.beq t 1
    | 1004 => Nat.beq n 0 && Nat.beq t 0
    | 1005 => Nat.beq n 1 && Nat.beq t 0
    | _ => false)
  | false => Nat.blt c 270 && (Nat.beq n (qNp c) && (match t with
    | 0 => !sp && (Nat.beq (qMt c).2.1 0 && (!Nat.beq (qMt c).2.2.1 9999 && (!Nat.beq (qMt c).2.2.2.1 9999 && (Nat.blt (qOw c) 11 && (qLm own ix c 0 || qLm own ix c 1)))))
    | 1 => !sp && (Nat.beq (qMt c).2.1 1 && qLm own ix c 0)
    | 2 => sp && (Nat.beq (qMt c).2.1 0 && (!Nat.beq (qMt c).2.2.1 9999 && (Nat.blt (qOw c) 11 && (decide ((qYm c).1.name = "<init>") && (Nat.beq (qRt c) 9 && (qLm own ix c 0 || qLm own ix c 1))))))
    | _ => false))
def qlk (m pc : Nat) (x : qE) : Bool := match x with
  | (i, len, a, b, t) => match i with
    | .iconst _ => Nat.beq len 1
    | .bipush _ => Nat.beq len 2
    | .sipush _ => Nat.beq len 3
    | .lconst _ => Nat.beq len 1
    | .aconst_null => Nat.beq len 1
    | .ldc ix => Nat.beq len 2 && (match t with
      | 0 => qIm (qOw m) ix a
      | _ => qSm (qOw m) ix a)
    | .ldc_w ix => Nat.beq len 3 && qIm (qOw m) ix a
    | .ldc2_w ix => Nat.beq len 3 && qJm (qOw m) ix a
    | .iload_n _ => Nat.beq len 1
    | .iload _ => Nat.beq len 2
    | .lload_n _ => Nat.beq len 1
    | .lload _ => Nat.beq len 2
    | .aload_n _ => Nat.beq len 1
    | .aload _ => Nat.beq len 2
    | .istore_n _ => Nat.beq len 1
    | .istore _ => Nat.beq len 2
    | .lstore_n _ => Nat.beq len 1
    | .lstore _ => Nat.beq len 2
    | .astore_n _ => Nat.beq len 1
    | .astore _ => Nat.beq len 2
    | .iinc _ _ => Nat.beq len 3
    | .goto o => Nat.beq len 3 && decide ((pc : Int) + o = (a : Int))
    | .ifCond _ o => Nat.beq len 3 && decide ((pc : Int) + o = (a : Int))
    | .if_icmp _ o => Nat.beq len 3 && decide ((pc : Int) + o = (a : Int))
    | .ifnull o => Nat.beq len 3 && decide ((pc : Int) + o = (a : Int))
    | .ifnonnull o => Nat.beq len 3 && decide ((pc : Int) + o = (a : Int))
    | .tableswitch _ _ _ _ => true
    | .lookupswitch _ ps => (ps.toList.zip (ps.toList.drop 1)).all (fun (a, next) => a.1 < next.1)
    | .getfield ix => Nat.beq len 3 && (Nat.blt a 11 && (qFm (qOw m) ix a b && Nat.beq t (qFt a b)))
    | .putfield ix => Nat.beq len 3 && (Nat.blt a 11 && (qFm (qOw m) ix a b && (Nat.beq t (qFt a b) && (!(qTb a b).2.2.2 || (decide ((qYm m).1.name = "<init>") && Nat.beq (qOw m) a)))))
    | .invokevirtual ix => Nat.beq len 3 && (Nat.beq t 0 && qcall (qOw m) ix a b t false)
    | .invokespecial ix => Nat.beq len 3 && (Nat.beq t 2 && qcall (qOw m) ix a b t true)
    | .invokestatic ix => Nat.beq len 3 && (Nat.beq t 1 && qcall (qOw m) ix a b t false)
    | .new ix => Nat.beq len 3 && (Nat.beq a 99 || (Nat.blt a 11 && (qKm (qOw m) ix a && Nat.beq b (qnth qCl a (RL, TX0, 0)).2.2)))
    | .newarray _ => Nat.beq len 2
    | .anewarray ix => Nat.beq len 3 && ((Nat.beq a 103 || (Nat.beq a 104 || Nat.beq a 105)) && qKm (qOw m) ix (qel a))
    | .ireturn => Nat.beq len 1 && Nat.beq t (qRt m)
    | .lreturn => Nat.beq len 1 && Nat.beq (qRt m) 1
    | .areturn => Nat.beq len 1 && Nat.beq (qRt m) 2
    | .return_ => Nat.beq len 1 && Nat.beq (qRt m) 9
    | _ => Nat.beq len 1
def qlr (m : Nat) : Nat → List (Option qE) → Bool
  | _, [] => true
  | pc, none :: r => qlr m (pc + 1) r
  | pc, some x :: r => qlk m pc x && qlr m (pc + 1) r
def qll (m : Nat) : Nat → List (List (Option qE)) → Bool
  | _, [] => true
  | k, r :: l => qlr m (16 * k) r && qll m (k + 1) l
def qlok (m : Nat) : Bool := qll m 0 (qpm m)
set_option maxRecDepth 100000 in
theorem ql_60 : ∀ k, k < 60 → qlok (0 + k) = true := by decide +kernel
set_option maxRecDepth 100000 in
theorem ql_120 : ∀ k, k < 60 → qlok (60 + k) = true := by decide +kernel
set_option maxRecDepth 100000 in
theorem ql_180 : ∀ k, k < 60 → qlok (120 + k) = true := by decide +kernel
set_option maxRecDepth 100000 in
theorem ql_240 : ∀ k, k < 60 → qlok (180 + k) = true := by decide +kernel
set_option maxRecDepth 100000 in
theorem ql_271 : ∀ k, k < 31 → qlok (240 + k) = true := by decide +kernel
theorem ql_all (m : Nat) (hm : m < 271) : qlok m = true := by
  by_cases h60 : m < 60
  · have := ql_60 (m - 0) (by omega); rwa [show 0 + (m - 0) = m by omega] at this
  by_cases h120 : m < 120
  · have := ql_120 (m - 60) (by omega); rwa [show 60 + (m - 60) = m by omega] at this
  by_cases h180 : m < 180
  · have := ql_180 (m - 120) (by omega); rwa [show 120 + (m - 120) = m by omega] at this
  by_cases h240 : m < 240
  · have := ql_240 (m - 180) (by omega); rwa [show 180 + (m - 180) = m by omega] at this
  have := ql_271 (m - 240) (by omega)
  rwa [show 240 + (m - 240) = m by omega] at this
theorem qlr_at {m : Nat} {x : qE} : ∀ (r : List (Option qE)) (pc j : Nat), qlr m pc r = true → qnth r j none = some x → qlk m (pc + j) x = true
  | [], _, _, _, h => by cases h
  | none :: r, pc, 0, _, h => by cases h
  | some y :: r, pc, 0, hd, h => by
    cases h
    unfold qlr at hd
    simp only [Bool.and_eq_true] at hd
    exact hd.1
  | none :: r, pc, j + 1, hd, h => by
    have := qlr_at r (pc + 1) j hd h
    rwa [Nat.add_assoc, Nat.add_comm 1 j] at this
  | some y :: r, pc, j + 1, hd, h => by
    unfold qlr at hd
    simp only [Bool.and_eq_true] at hd
    have := qlr_at r (pc + 1) j hd.2 h
    rwa [Nat.add_assoc, Nat.add_comm 1 j] at this
theorem qll_at {m : Nat} {x : qE} : ∀ (l : List (List (Option qE))) (k i j : Nat), qll m k l = true → qnth (qnth l i []) j none = some x → qlk m (16 * (k + i) + j) x = true
  | [], _, _, _, _, h => by cases h
  | r :: l, k, 0, j, hd, h => by
    unfold qll at hd
    simp only [Bool.and_eq_true] at hd
    exact qlr_at r (16 * k) j hd.1 h
  | r :: l, k, i + 1, j, hd, h => by
    unfold qll at hd
    simp only [Bool.and_eq_true] at hd
    have := qll_at l (k + 1) i j hd.2 h
    rwa [Nat.add_assoc, Nat.add_comm 1 i] at this
theorem qlinks {m pc : Nat} {x : qE} (h : qP m pc = some x) : qlk m pc x = true := by
  have hd := ql_all m (qP_lt h)
  have := qll_at (qpm m) 0 (pc / 16) (pc % 16) hd h
  rwa [Nat.zero_add, Nat.div_add_mod] at this
