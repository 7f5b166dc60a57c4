/-! The heap's picture: u.1 the int and boolean fields, u.2.1 the arrays (by number), u.2.2 the law's long. Class: 0 .., reference: 20 .. -/
abbrev St : Type := (Nat → Int32) × (Nat → Nat → Int32) × (Nat → Int64)
def Hp (u : St) : e_H := fun i => match i with
  | 0 => .inr (0, [.ref 1, .ref 3, .ref 6, .ref 8, .ref 10])
  | 1 => .inr (1, [.ref 2, .int (u.1 0), .int (u.1 1), .int (u.1 2)])
  | 2 => .inl (0, 256, .inl (u.2.1 0))
  | 3 => .inr (2, [.ref 4, .ref 5])
  | 4 => .inl (0, 768, .inl (u.2.1 1))
  | 5 => .inl (1, 96, .inl (u.2.1 2))
  | 6 => .inr (3, [.ref 3, .ref 7, .int (u.1 3), .int (u.1 4), .int (u.1 5)])
  | 7 => .inl (0, 40, .inl (u.2.1 3))
  | 8 => .inr (4, [.ref 3, .ref 10, .ref 9, .int (u.1 6)])
  | 9 => .inl (0, 40, .inl (u.2.1 4))
  | 10 => .inr (5, [.ref 11, .ref 12, .int (u.1 7), .int (u.1 8), .ref 13, .int (u.1 9), .int (u.1 10), .int (u.1 11)])
  | 11 => .inl (0, 256, .inl (u.2.1 5))
  | 12 => .inl (1, 16, .inl (u.2.1 6))
  | 13 => .inl (0, 57, .inl (u.2.1 7))
  | 14 => .inl (2, 1, .inr (.inl u.2.2))
  | 15 => .inr (6, [.int (u.1 20), .ref 16, .ref 17, .ref 18, .ref 19, .int (u.1 21), .int (u.1 22), .int (u.1 23), .ref 20, .ref 21, .int (u.1 24), .ref 22, .int (u.1 25), .int (u.1 26), .ref 23, .ref 24, .ref 25, .int (u.1 27), .int (u.1 28), .ref 26, .int (u.1 29), .int (u.1 30)])
  | 16 => .inl (0, 256, .inl (u.2.1 20))
  | 17 => .inl (0, 336, .inl (u.2.1 21))
  | 18 => .inl (0, 6, .inl (u.2.1 22))
  | 19 => .inl (1, 256, .inl (u.2.1 23))
  | 20 => .inl (0, 768, .inl (u.2.1 24))
  | 21 => .inl (1, 96, .inl (u.2.1 25))
  | 22 => .inl (0, 64, .inl (u.2.1 26))
  | 23 => .inl (0, 256, .inl (u.2.1 27))
  | 24 => .inl (1, 16, .inl (u.2.1 28))
  | 25 => .inl (0, 16, .inl (u.2.1 29))
  | 26 => .inl (0, 64, .inl (u.2.1 30))
  | _ => .inl (0, 0, .inl (fun _ => 0))
def uS (u : St) (k : Nat) (x : Int32) : St := (fun j => cond (Nat.beq j k) x (u.1 j), u.2)
def uA (u : St) (k : Nat) (f : Nat → Int32) : St := (u.1, fun j => cond (Nat.beq j k) f (u.2.1 j), u.2.2)
def uO (u : St) (f : Nat → Int64) : St := (u.1, u.2.1, f)
theorem h_a0 (u : St) (f : Nat → Int32) : e_set (Hp u) 2 (.inl (0, 256, .inl f)) = Hp (uA u 0 f) := funext fun i => match i with | 0 => rfl | 1 => rfl | 2 => rfl | 3 => rfl | 4 => rfl | 5 => rfl | 6 => rfl | 7 => rfl | 8 => rfl | 9 => rfl | 10 => rfl | 11 => rfl | 12 => rfl | 13 => rfl | 14 => rfl | 15 => rfl | 16 => rfl | 17 => rfl | 18 => rfl | 19 => rfl | 20 => rfl | 21 => rfl | 22 => rfl | 23 => rfl | 24 => rfl | 25 => rfl | 26 => rfl | _ + 27 => rfl
theorem h_a1 (u : St) (f : Nat → Int32) : e_set (Hp u) 4 (.inl (0, 768, .inl f)) = Hp (uA u 1 f) := funext fun i => match i with | 0 => rfl | 1 => rfl | 2 => rfl | 3 => rfl | 4 => rfl | 5 => rfl | 6 => rfl | 7 => rfl | 8 => rfl | 9 => rfl | 10 => rfl | 11 => rfl | 12 => rfl | 13 => rfl | 14 => rfl | 15 => rfl | 16 => rfl | 17 => rfl | 18 => rfl | 19 => rfl | 20 => rfl | 21 => rfl | 22 => rfl | 23 => rfl | 24 => rfl | 25 => rfl | 26 => rfl | _ + 27 => rfl
theorem h_a2 (u : St) (f : Nat → Int32) : e_set (Hp u) 5 (.inl (1, 96, .inl f)) = Hp (uA u 2 f) := funext fun i => match i with | 0 => rfl | 1 => rfl | 2 => rfl | 3 => rfl | 4 => rfl | 5 => rfl | 6 => rfl | 7 => rfl | 8 => rfl | 9 => rfl | 10 => rfl | 11 => rfl | 12 => rfl | 13 => rfl | 14 => rfl | 15 => rfl | 16 => rfl | 17 => rfl | 18 => rfl | 19 => rfl | 20 => rfl | 21 => rfl | 22 => rfl | 23 => rfl | 24 => rfl | 25 => rfl | 26 => rfl | _ + 27 => rfl
theorem h_a3 (u : St) (f : Nat → Int32) : e_set (Hp u) 7 (.inl (0, 40, .inl f)) = Hp (uA u 3 f) := funext fun i => match i with | 0 => rfl | 1 => rfl | 2 => rfl | 3 => rfl | 4 => rfl | 5 => rfl | 6 => rfl | 7 => rfl | 8 => rfl | 9 => rfl | 10 => rfl | 11 => rfl | 12 => rfl | 13 => rfl | 14 => rfl | 15 => rfl | 16 => rfl | 17 => rfl | 18 => rfl | 19 => rfl | 20 => rfl | 21 => rfl | 22 => rfl | 23 => rfl | 24 => rfl | 25 => rfl | 26 => rfl | _ + 27 => rfl
theorem h_a4 (u : St) (f : Nat → Int32) : e_set (Hp u) 9 (.inl (0, 40, .inl f)) = Hp (uA u 4 f) := funext fun i => match i with | 0 => rfl | 1 => rfl | 2 => rfl | 3 => rfl | 4 => rfl | 5 => rfl | 6 => rfl | 7 => rfl | 8 => rfl | 9 => rfl | 10 => rfl | 11 => rfl | 12 => rfl | 13 => rfl | 14 => rfl | 15 => rfl | 16 => rfl | 17 => rfl | 18 => rfl | 19 => rfl | 20 => rfl | 21 => rfl | 22 => rfl | 23 => rfl | 24 => rfl | 25 => rfl | 26 => rfl | _ + 27 => rfl
theorem h_a5 (u : St) (f : Nat → Int32) : e_set (Hp u) 11 (.inl (0, 256, .inl f)) = Hp (uA u 5 f) := funext fun i => match i with | 0 => rfl | 1 => rfl | 2 => rfl | 3 => rfl | 4 => rfl | 5 => rfl | 6 => rfl | 7 => rfl | 8 => rfl | 9 => rfl | 10 => rfl | 11 => rfl | 12 => rfl | 13 => rfl | 14 => rfl | 15 => rfl | 16 => rfl | 17 => rfl | 18 => rfl | 19 => rfl | 20 => rfl | 21 => rfl | 22 => rfl | 23 => rfl | 24 => rfl | 25 => rfl | 26 => rfl | _ + 27 => rfl
theorem h_a6 (u : St) (f : Nat → Int32) : e_set (Hp u) 12 (.inl (1, 16, .inl f)) = Hp (uA u 6 f) := funext fun i => match i with | 0 => rfl | 1 => rfl | 2 => rfl | 3 => rfl | 4 => rfl | 5 => rfl | 6 => rfl | 7 => rfl | 8 => rfl | 9 => rfl | 10 => rfl | 11 => rfl | 12 => rfl | 13 => rfl | 14 => rfl | 15 => rfl | 16 => rfl | 17 => rfl | 18 => rfl | 19 => rfl | 20 => rfl | 21 => rfl | 22 => rfl | 23 => rfl | 24 => rfl | 25 => rfl | 26 => rfl | _ + 27 => rfl
theorem h_a7 (u : St) (f : Nat → Int32) : e_set (Hp u) 13 (.inl (0, 57, .inl f)) = Hp (uA u 7 f) := funext fun i => match i with | 0 => rfl | 1 => rfl | 2 => rfl | 3 => rfl | 4 => rfl | 5 => rfl | 6 => rfl | 7 => rfl | 8 => rfl | 9 => rfl | 10 => rfl | 11 => rfl | 12 => rfl | 13 => rfl | 14 => rfl | 15 => rfl | 16 => rfl | 17 => rfl | 18 => rfl | 19 => rfl | 20 => rfl | 21 => rfl | 22 => rfl | 23 => rfl | 24 => rfl | 25 => rfl | 26 => rfl | _ + 27 => rfl
theorem h_a20 (u : St) (f : Nat → Int32) : e_set (Hp u) 16 (.inl (0, 256, .inl f)) = Hp (uA u 20 f) := funext fun i => match i with | 0 => rfl | 1 => rfl | 2 => rfl | 3 => rfl | 4 => rfl | 5 => rfl | 6 => rfl | 7 => rfl | 8 => rfl | 9 => rfl | 10 => rfl | 11 => rfl | 12 => rfl | 13 => rfl | 14 => rfl | 15 => rfl | 16 => rfl | 17 => rfl | 18 => rfl | 19 => rfl | 20 => rfl | 21 => rfl | 22 => rfl | 23 => rfl | 24 => rfl | 25 => rfl | 26 => rfl | _ + 27 => rfl
theorem h_a21 (u : St) (f : Nat → Int32) : e_set (Hp u) 17 (.inl (0, 336, .inl f)) = Hp (uA u 21 f) := funext fun i => match i with | 0 => rfl | 1 => rfl | 2 => rfl | 3 => rfl | 4 => rfl | 5 => rfl | 6 => rfl | 7 => rfl | 8 => rfl | 9 => rfl | 10 => rfl | 11 => rfl | 12 => rfl | 13 => rfl | 14 => rfl | 15 => rfl | 16 => rfl | 17 => rfl | 18 => rfl | 19 => rfl | 20 => rfl | 21 => rfl | 22 => rfl | 23 => rfl | 24 => rfl | 25 => rfl | 26 => rfl | _ + 27 => rfl
theorem h_a22 (u : St) (f : Nat → Int32) : e_set (Hp u) 18 (.inl (0, 6, .inl f)) = Hp (uA u 22 f) := funext fun i => match i with | 0 => rfl | 1 => rfl | 2 => rfl | 3 => rfl | 4 => rfl | 5 => rfl | 6 => rfl | 7 => rfl | 8 => rfl | 9 => rfl | 10 => rfl | 11 => rfl | 12 => rfl | 13 => rfl | 14 => rfl | 15 => rfl | 16 => rfl | 17 => rfl | 18 => rfl | 19 => rfl | 20 => rfl | 21 => rfl | 22 => rfl | 23 => rfl | 24 => rfl | 25 => rfl | 26 => rfl | _ + 27 => rfl
theorem h_a23 (u : St) (f : Nat → Int32) : e_set (Hp u) 19 (.inl (1, 256, .inl f)) = Hp (uA u 23 f) := funext fun i => match i with | 0 => rfl | 1 => rfl | 2 => rfl | 3 => rfl | 4 => rfl | 5 => rfl | 6 => rfl | 7 => rfl | 8 => rfl | 9 => rfl | 10 => rfl | 11 => rfl | 12 => rfl | 13 => rfl | 14 => rfl | 15 => rfl | 16 => rfl | 17 => rfl | 18 => rfl | 19 => rfl | 20 => rfl | 21 => rfl | 22 => rfl | 23 => rfl | 24 => rfl | 25 => rfl | 26 => rfl | _ + 27 => rfl
theorem h_a24 (u : St) (f : Nat → Int32) : e_set (Hp u) 20 (.inl (0, 768, .inl f)) = Hp (uA u 24 f) := funext fun i => match i with | 0 => rfl | 1 => rfl | 2 => rfl | 3 => rfl | 4 => rfl | 5 => rfl | 6 => rfl | 7 => rfl | 8 => rfl | 9 => rfl | 10 => rfl | 11 => rfl | 12 => rfl | 13 => rfl | 14 => rfl | 15 => rfl | 16 => rfl | 17 => rfl | 18 => rfl | 19 => rfl | 20 => rfl | 21 => rfl | 22 => rfl | 23 => rfl | 24 => rfl | 25 => rfl | 26 => rfl | _ + 27 => rfl
theorem h_a25 (u : St) (f : Nat → Int32) : e_set (Hp u) 21 (.inl (1, 96, .inl f)) = Hp (uA u 25 f) := funext fun i => match i with | 0 => rfl | 1 => rfl | 2 => rfl | 3 => rfl | 4 => rfl | 5 => rfl | 6 => rfl | 7 => rfl | 8 => rfl | 9 => rfl | 10 => rfl | 11 => rfl | 12 => rfl | 13 => rfl | 14 => rfl | 15 => rfl | 16 => rfl | 17 => rfl | 18 => rfl | 19 => rfl | 20 => rfl | 21 => rfl | 22 => rfl | 23 => rfl | 24 => rfl | 25 => rfl | 26 => rfl | _ + 27 => rfl
theorem h_a26 (u : St) (f : Nat → Int32) : e_set (Hp u) 22 (.inl (0, 64, .inl f)) = Hp (uA u 26 f) := funext fun i => match i with | 0 => rfl | 1 => rfl | 2 => rfl | 3 => rfl | 4 => rfl | 5 => rfl | 6 => rfl | 7 => rfl | 8 => rfl | 9 => rfl | 10 => rfl | 11 => rfl | 12 => rfl | 13 => rfl | 14 => rfl | 15 => rfl | 16 => rfl | 17 => rfl | 18 => rfl | 19 => rfl | 20 => rfl | 21 => rfl | 22 => rfl | 23 => rfl | 24 => rfl | 25 => rfl | 26 => rfl | _ + 27 => rfl
theorem h_a27 (u : St) (f : Nat → Int32) : e_set (Hp u) 23 (.inl (0, 256, .inl f)) = Hp (uA u 27 f) := funext fun i => match i with | 0 => rfl | 1 => rfl | 2 => rfl | 3 => rfl | 4 => rfl | 5 => rfl | 6 => rfl | 7 => rfl | 8 => rfl | 9 => rfl | 10 => rfl | 11 => rfl | 12 => rfl | 13 => rfl | 14 => rfl | 15 => rfl | 16 => rfl | 17 => rfl | 18 => rfl | 19 => rfl | 20 => rfl | 21 => rfl | 22 => rfl | 23 => rfl | 24 => rfl | 25 => rfl | 26 => rfl | _ + 27 => rfl
theorem h_a28 (u : St) (f : Nat → Int32) : e_set (Hp u) 24 (.inl (1, 16, .inl f)) = Hp (uA u 28 f) := funext fun i => match i with | 0 => rfl | 1 => rfl | 2 => rfl | 3 => rfl | 4 => rfl | 5 => rfl | 6 => rfl | 7 => rfl | 8 => rfl | 9 => rfl | 10 => rfl | 11 => rfl | 12 => rfl | 13 => rfl | 14 => rfl | 15 => rfl | 16 => rfl | 17 => rfl | 18 => rfl | 19 => rfl | 20 => rfl | 21 => rfl | 22 => rfl | 23 => rfl | 24 => rfl | 25 => rfl | 26 => rfl | _ + 27 => rfl
theorem h_a29 (u : St) (f : Nat → Int32) : e_set (Hp u) 25 (.inl (0, 16, .inl f)) = Hp (uA u 29 f) := funext fun i => match i with | 0 => rfl | 1 => rfl | 2 => rfl | 3 => rfl | 4 => rfl | 5 => rfl | 6 => rfl | 7 => rfl | 8 => rfl | 9 => rfl | 10 => rfl | 11 => rfl | 12 => rfl | 13 => rfl | 14 => rfl | 15 => rfl | 16 => rfl | 17 => rfl | 18 => rfl | 19 => rfl | 20 => rfl | 21 => rfl | 22 => rfl | 23 => rfl | 24 => rfl | 25 => rfl | 26 => rfl | _ + 27 => rfl
theorem h_a30 (u : St) (f : Nat → Int32) : e_set (Hp u) 26 (.inl (0, 64, .inl f)) = Hp (uA u 30 f) := funext fun i => match i with | 0 => rfl | 1 => rfl | 2 => rfl | 3 => rfl | 4 => rfl | 5 => rfl | 6 => rfl | 7 => rfl | 8 => rfl | 9 => rfl | 10 => rfl | 11 => rfl | 12 => rfl | 13 => rfl | 14 => rfl | 15 => rfl | 16 => rfl | 17 => rfl | 18 => rfl | 19 => rfl | 20 => rfl | 21 => rfl | 22 => rfl | 23 => rfl | 24 => rfl | 25 => rfl | 26 => rfl | _ + 27 => rfl
theorem h_o (u : St) (f : Nat → Int64) : e_set (Hp u) 14 (.inl (2, 1, .inr (.inl f))) = Hp (uO u f) := funext fun i => match i with | 0 => rfl | 1 => rfl | 2 => rfl | 3 => rfl | 4 => rfl | 5 => rfl | 6 => rfl | 7 => rfl | 8 => rfl | 9 => rfl | 10 => rfl | 11 => rfl | 12 => rfl | 13 => rfl | 14 => rfl | 15 => rfl | 16 => rfl | 17 => rfl | 18 => rfl | 19 => rfl | 20 => rfl | 21 => rfl | 22 => rfl | 23 => rfl | 24 => rfl | 25 => rfl | 26 => rfl | _ + 27 => rfl
theorem h_s0 (u : St) (x : Int32) : e_set (Hp u) 1 (.inr (1, [.ref 2, .int x, .int (u.1 1), .int (u.1 2)])) = Hp (uS u 0 x) := funext fun i => match i with | 0 => rfl | 1 => rfl | 2 => rfl | 3 => rfl | 4 => rfl | 5 => rfl | 6 => rfl | 7 => rfl | 8 => rfl | 9 => rfl | 10 => rfl | 11 => rfl | 12 => rfl | 13 => rfl | 14 => rfl | 15 => rfl | 16 => rfl | 17 => rfl | 18 => rfl | 19 => rfl | 20 => rfl | 21 => rfl | 22 => rfl | 23 => rfl | 24 => rfl | 25 => rfl | 26 => rfl | _ + 27 => rfl
theorem h_s1 (u : St) (x : Int32) : e_set (Hp u) 1 (.inr (1, [.ref 2, .int (u.1 0), .int x, .int (u.1 2)])) = Hp (uS u 1 x) := funext fun i => match i with | 0 => rfl | 1 => rfl | 2 => rfl | 3 => rfl | 4 => rfl | 5 => rfl | 6 => rfl | 7 => rfl | 8 => rfl | 9 => rfl | 10 => rfl | 11 => rfl | 12 => rfl | 13 => rfl | 14 => rfl | 15 => rfl | 16 => rfl | 17 => rfl | 18 => rfl | 19 => rfl | 20 => rfl | 21 => rfl | 22 => rfl | 23 => rfl | 24 => rfl | 25 => rfl | 26 => rfl | _ + 27 => rfl
theorem h_s2 (u : St) (x : Int32) : e_set (Hp u) 1 (.inr (1, [.ref 2, .int (u.1 0), .int (u.1 1), .int x])) = Hp (uS u 2 x) := funext fun i => match i with | 0 => rfl | 1 => rfl | 2 => rfl | 3 => rfl | 4 => rfl | 5 => rfl | 6 => rfl | 7 => rfl | 8 => rfl | 9 => rfl | 10 => rfl | 11 => rfl | 12 => rfl | 13 => rfl | 14 => rfl | 15 => rfl | 16 => rfl | 17 => rfl | 18 => rfl | 19 => rfl | 20 => rfl | 21 => rfl | 22 => rfl | 23 => rfl | 24 => rfl | 25 => rfl | 26 => rfl | _ + 27 => rfl
theorem h_s3 (u : St) (x : Int32) : e_set (Hp u) 6 (.inr (3, [.ref 3, .ref 7, .int x, .int (u.1 4), .int (u.1 5)])) = Hp (uS u 3 x) := funext fun i => match i with | 0 => rfl | 1 => rfl | 2 => rfl | 3 => rfl | 4 => rfl | 5 => rfl | 6 => rfl | 7 => rfl | 8 => rfl | 9 => rfl | 10 => rfl | 11 => rfl | 12 => rfl | 13 => rfl | 14 => rfl | 15 => rfl | 16 => rfl | 17 => rfl | 18 => rfl | 19 => rfl | 20 => rfl | 21 => rfl | 22 => rfl | 23 => rfl | 24 => rfl | 25 => rfl | 26 => rfl | _ + 27 => rfl
theorem h_s4 (u : St) (x : Int32) : e_set (Hp u) 6 (.inr (3, [.ref 3, .ref 7, .int (u.1 3), .int x, .int (u.1 5)])) = Hp (uS u 4 x) := funext fun i => match i with | 0 => rfl | 1 => rfl | 2 => rfl | 3 => rfl | 4 => rfl | 5 => rfl | 6 => rfl | 7 => rfl | 8 => rfl | 9 => rfl | 10 => rfl | 11 => rfl | 12 => rfl | 13 => rfl | 14 => rfl | 15 => rfl | 16 => rfl | 17 => rfl | 18 => rfl | 19 => rfl | 20 => rfl | 21 => rfl | 22 => rfl | 23 => rfl | 24 => rfl | 25 => rfl | 26 => rfl | _ + 27 => rfl
theorem h_s5 (u : St) (x : Int32) : e_set (Hp u) 6 (.inr (3, [.ref 3, .ref 7, .int (u.1 3), .int (u.1 4), .int x])) = Hp (uS u 5 x) := funext fun i => match i with | 0 => rfl | 1 => rfl | 2 => rfl | 3 => rfl | 4 => rfl | 5 => rfl | 6 => rfl | 7 => rfl | 8 => rfl | 9 => rfl | 10 => rfl | 11 => rfl | 12 => rfl | 13 => rfl | 14 => rfl | 15 => rfl | 16 => rfl | 17 => rfl | 18 => rfl | 19 => rfl | 20 => rfl | 21 => rfl | 22 => rfl | 23 => rfl | 24 => rfl | 25 => rfl | 26 => rfl | _ + 27 => rfl
theorem h_s6 (u : St) (x : Int32) : e_set (Hp u) 8 (.inr (4, [.ref 3, .ref 10, .ref 9, .int x])) = Hp (uS u 6 x) := funext fun i => match i with | 0 => rfl | 1 => rfl | 2 => rfl | 3 => rfl | 4 => rfl | 5 => rfl | 6 => rfl | 7 => rfl | 8 => rfl | 9 => rfl | 10 => rfl | 11 => rfl | 12 => rfl | 13 => rfl | 14 => rfl | 15 => rfl | 16 => rfl | 17 => rfl | 18 => rfl | 19 => rfl | 20 => rfl | 21 => rfl | 22 => rfl | 23 => rfl | 24 => rfl | 25 => rfl | 26 => rfl | _ + 27 => rfl
theorem h_s7 (u : St) (x : Int32) : e_set (Hp u) 10 (.inr (5, [.ref 11, .ref 12, .int x, .int (u.1 8), .ref 13, .int (u.1 9), .int (u.1 10), .int (u.1 11)])) = Hp (uS u 7 x) := funext fun i => match i with | 0 => rfl | 1 => rfl | 2 => rfl | 3 => rfl | 4 => rfl | 5 => rfl | 6 => rfl | 7 => rfl | 8 => rfl | 9 => rfl | 10 => rfl | 11 => rfl | 12 => rfl | 13 => rfl | 14 => rfl | 15 => rfl | 16 => rfl | 17 => rfl | 18 => rfl | 19 => rfl | 20 => rfl | 21 => rfl | 22 => rfl | 23 => rfl | 24 => rfl | 25 => rfl | 26 => rfl | _ + 27 => rfl
theorem h_s8 (u : St) (x : Int32) : e_set (Hp u) 10 (.inr (5, [.ref 11, .ref 12, .int (u.1 7), .int x, .ref 13, .int (u.1 9), .int (u.1 10), .int (u.1 11)])) = Hp (uS u 8 x) := funext fun i => match i with | 0 => rfl | 1 => rfl | 2 => rfl | 3 => rfl | 4 => rfl | 5 => rfl | 6 => rfl | 7 => rfl | 8 => rfl | 9 => rfl | 10 => rfl | 11 => rfl | 12 => rfl | 13 => rfl | 14 => rfl | 15 => rfl | 16 => rfl | 17 => rfl | 18 => rfl | 19 => rfl | 20 => rfl | 21 => rfl | 22 => rfl | 23 => rfl | 24 => rfl | 25 => rfl | 26 => rfl | _ + 27 => rfl
theorem h_s9 (u : St) (x : Int32) : e_set (Hp u) 10 (.inr (5, [.ref 11, .ref 12, .int (u.1 7), .int (u.1 8), .ref 13, .int x, .int (u.1 10), .int (u.1 11)])) = Hp (uS u 9 x) := funext fun i => match i with | 0 => rfl | 1 => rfl | 2 => rfl | 3 => rfl | 4 => rfl | 5 => rfl | 6 => rfl | 7 => rfl | 8 => rfl | 9 => rfl | 10 => rfl | 11 => rfl | 12 => rfl | 13 => rfl | 14 => rfl | 15 => rfl | 16 => rfl | 17 => rfl | 18 => rfl | 19 => rfl | 20 => rfl | 21 => rfl | 22 => rfl | 23 => rfl | 24 => rfl | 25 => rfl | 26 => rfl | _ + 27 => rfl
theorem h_s10 (u : St) (x : Int32) : e_set (Hp u) 10 (.inr (5, [.ref 11, .ref 12, .int (u.1 7), .int (u.1 8), .ref 13, .int (u.1 9), .int x, .int (u.1 11)])) = Hp (uS u 10 x) := funext fun i => match i with | 0 => rfl | 1 => rfl | 2 => rfl | 3 => rfl | 4 => rfl | 5 => rfl | 6 => rfl | 7 => rfl | 8 => rfl | 9 => rfl | 10 => rfl | 11 => rfl | 12 => rfl | 13 => rfl | 14 => rfl | 15 => rfl | 16 => rfl | 17 => rfl | 18 => rfl | 19 => rfl | 20 => rfl | 21 => rfl | 22 => rfl | 23 => rfl | 24 => rfl | 25 => rfl | 26 => rfl | _ + 27 => rfl
theorem h_s11 (u : St) (x : Int32) : e_set (Hp u) 10 (.inr (5, [.ref 11, .ref 12, .int (u.1 7), .int (u.1 8), .ref 13, .int (u.1 9), .int (u.1 10), .int x])) = Hp (uS u 11 x) := funext fun i => match i with | 0 => rfl | 1 => rfl | 2 => rfl | 3 => rfl | 4 => rfl | 5 => rfl | 6 => rfl | 7 => rfl | 8 => rfl | 9 => rfl | 10 => rfl | 11 => rfl | 12 => rfl | 13 => rfl | 14 => rfl | 15 => rfl | 16 => rfl | 17 => rfl | 18 => rfl | 19 => rfl | 20 => rfl | 21 => rfl | 22 => rfl | 23 => rfl | 24 => rfl | 25 => rfl | 26 => rfl | _ + 27 => rfl
theorem h_s20 (u : St) (x : Int32) : e_set (Hp u) 15 (.inr (6, [.int x, .ref 16, .ref 17, .ref 18, .ref 19, .int (u.1 21), .int (u.1 22), .int (u.1 23), .ref 20, .ref 21, .int (u.1 24), .ref 22, .int (u.1 25), .int (u.1 26), .ref 23, .ref 24, .ref 25, .int (u.1 27), .int (u.1 28), .ref 26, .int (u.1 29), .int (u.1 30)])) = Hp (uS u 20 x) := funext fun i => match i with | 0 => rfl | 1 => rfl | 2 => rfl | 3 => rfl | 4 => rfl | 5 => rfl | 6 => rfl | 7 => rfl | 8 => rfl | 9 => rfl | 10 => rfl | 11 => rfl | 12 => rfl | 13 => rfl | 14 => rfl | 15 => rfl | 16 => rfl | 17 => rfl | 18 => rfl | 19 => rfl | 20 => rfl | 21 => rfl | 22 => rfl | 23 => rfl | 24 => rfl | 25 => rfl | 26 => rfl | _ + 27 => rfl
theorem h_s21 (u : St) (x : Int32) : e_set (Hp u) 15 (.inr (6, [.int (u.1 20), .ref 16, .ref 17, .ref 18, .ref 19, .int x, .int (u.1 22), .int (u.1 23), .ref 20, .ref 21, .int (u.1 24), .ref 22, .int (u.1 25), .int (u.1 26), .ref 23, .ref 24, .ref 25, .int (u.1 27), .int (u.1 28), .ref 26, .int (u.1 29), .int (u.1 30)])) = Hp (uS u 21 x) := funext fun i => match i with | 0 => rfl | 1 => rfl | 2 => rfl | 3 => rfl | 4 => rfl | 5 => rfl | 6 => rfl | 7 => rfl | 8 => rfl | 9 => rfl | 10 => rfl | 11 => rfl | 12 => rfl | 13 => rfl | 14 => rfl | 15 => rfl | 16 => rfl | 17 => rfl | 18 => rfl | 19 => rfl | 20 => rfl | 21 => rfl | 22 => rfl | 23 => rfl | 24 => rfl | 25 => rfl | 26 => rfl | _ + 27 => rfl
theorem h_s22 (u : St) (x : Int32) : e_set (Hp u) 15 (.inr (6, [.int (u.1 20), .ref 16, .ref 17, .ref 18, .ref 19, .int (u.1 21), .int x, .int (u.1 23), .ref 20, .ref 21, .int (u.1 24), .ref 22, .int (u.1 25), .int (u.1 26), .ref 23, .ref 24, .ref 25, .int (u.1 27), .int (u.1 28), .ref 26, .int (u.1 29), .int (u.1 30)])) = Hp (uS u 22 x) := funext fun i => match i with | 0 => rfl | 1 => rfl | 2 => rfl | 3 => rfl | 4 => rfl | 5 => rfl | 6 => rfl | 7 => rfl | 8 => rfl | 9 => rfl | 10 => rfl | 11 => rfl | 12 => rfl | 13 => rfl | 14 => rfl | 15 => rfl | 16 => rfl | 17 => rfl | 18 => rfl | 19 => rfl | 20 => rfl | 21 => rfl | 22 => rfl | 23 => rfl | 24 => rfl | 25 => rfl | 26 => rfl | _ + 27 => rfl
theorem h_s23 (u : St) (x : Int32) : e_set (Hp u) 15 (.inr (6, [.int (u.1 20), .ref 16, .ref 17, .ref 18, .ref 19, .int (u.1 21), .int (u.1 22), .int x, .ref 20, .ref 21, .int (u.1 24), .ref 22, .int (u.1 25), .int (u.1 26), .ref 23, .ref 24, .ref 25, .int (u.1 27), .int (u.1 28), .ref 26, .int (u.1 29), .int (u.1 30)])) = Hp (uS u 23 x) := funext fun i => match i with | 0 => rfl | 1 => rfl | 2 => rfl | 3 => rfl | 4 => rfl | 5 => rfl | 6 => rfl | 7 => rfl | 8 => rfl | 9 => rfl | 10 => rfl | 11 => rfl | 12 => rfl | 13 => rfl | 14 => rfl | 15 => rfl | 16 => rfl | 17 => rfl | 18 => rfl | 19 => rfl | 20 => rfl | 21 => rfl | 22 => rfl | 23 => rfl | 24 => rfl | 25 => rfl | 26 => rfl | _ + 27 => rfl
theorem h_s24 (u : St) (x : Int32) : e_set (Hp u) 15 (.inr (6, [.int (u.1 20), .ref 16, .ref 17, .ref 18, .ref 19, .int (u.1 21), .int (u.1 22), .int (u.1 23), .ref 20, .ref 21, .int x, .ref 22, .int (u.1 25), .int (u.1 26), .ref 23, .ref 24, .ref 25, .int (u.1 27), .int (u.1 28), .ref 26, .int (u.1 29), .int (u.1 30)])) = Hp (uS u 24 x) := funext fun i => match i with | 0 => rfl | 1 => rfl | 2 => rfl | 3 => rfl | 4 => rfl | 5 => rfl | 6 => rfl | 7 => rfl | 8 => rfl | 9 => rfl | 10 => rfl | 11 => rfl | 12 => rfl | 13 => rfl | 14 => rfl | 15 => rfl | 16 => rfl | 17 => rfl | 18 => rfl | 19 => rfl | 20 => rfl | 21 => rfl | 22 => rfl | 23 => rfl | 24 => rfl | 25 => rfl | 26 => rfl | _ + 27 => rfl
theorem h_s25 (u : St) (x : Int32) : e_set (Hp u) 15 (.inr (6, [.int (u.1 20), .ref 16, .ref 17, .ref 18, .ref 19, .int (u.1 21), .int (u.1 22), .int (u.1 23), .ref 20, .ref 21, .int (u.1 24), .ref 22, .int x, .int (u.1 26), .ref 23, .ref 24, .ref 25, .int (u.1 27), .int (u.1 28), .ref 26, .int (u.1 29), .int (u.1 30)])) = Hp (uS u 25 x) := funext fun i => match i with | 0 => rfl | 1 => rfl | 2 => rfl | 3 => rfl | 4 => rfl | 5 => rfl | 6 => rfl | 7 => rfl | 8 => rfl | 9 => rfl | 10 => rfl | 11 => rfl | 12 => rfl | 13 => rfl | 14 => rfl | 15 => rfl | 16 => rfl | 17 => rfl | 18 => rfl | 19 => rfl | 20 => rfl | 21 => rfl | 22 => rfl | 23 => rfl | 24 => rfl | 25 => rfl | 26 => rfl | _ + 27 => rfl
theorem h_s26 (u : St) (x : Int32) : e_set (Hp u) 15 (.inr (6, [.int (u.1 20), .ref 16, .ref 17, .ref 18, .ref 19, .int (u.1 21), .int (u.1 22), .int (u.1 23), .ref 20, .ref 21, .int (u.1 24), .ref 22, .int (u.1 25), .int x, .ref 23, .ref 24, .ref 25, .int (u.1 27), .int (u.1 28), .ref 26, .int (u.1 29), .int (u.1 30)])) = Hp (uS u 26 x) := funext fun i => match i with | 0 => rfl | 1 => rfl | 2 => rfl | 3 => rfl | 4 => rfl | 5 => rfl | 6 => rfl | 7 => rfl | 8 => rfl | 9 => rfl | 10 => rfl | 11 => rfl | 12 => rfl | 13 => rfl | 14 => rfl | 15 => rfl | 16 => rfl | 17 => rfl | 18 => rfl | 19 => rfl | 20 => rfl | 21 => rfl | 22 => rfl | 23 => rfl | 24 => rfl | 25 => rfl | 26 => rfl | _ + 27 => rfl
theorem h_s27 (u : St) (x : Int32) : e_set (Hp u) 15 (.inr (6, [.int (u.1 20), .ref 16, .ref 17, .ref 18, .ref 19, .int (u.1 21), .int (u.1 22), .int (u.1 23), .ref 20, .ref 21, .int (u.1 24), .ref 22, .int (u.1 25), .int (u.1 26), .ref 23, .ref 24, .ref 25, .int x, .int (u.1 28), .ref 26, .int (u.1 29), .int (u.1 30)])) = Hp (uS u 27 x) := funext fun i => match i with | 0 => rfl | 1 => rfl | 2 => rfl | 3 => rfl | 4 => rfl | 5 => rfl | 6 => rfl | 7 => rfl | 8 => rfl | 9 => rfl | 10 => rfl | 11 => rfl | 12 => rfl | 13 => rfl | 14 => rfl | 15 => rfl | 16 => rfl | 17 => rfl | 18 => rfl | 19 => rfl | 20 => rfl | 21 => rfl | 22 => rfl | 23 => rfl | 24 => rfl | 25 => rfl | 26 => rfl | _ + 27 => rfl
theorem h_s28 (u : St) (x : Int32) : e_set (Hp u) 15 (.inr (6, [.int (u.1 20), .ref 16, .ref 17, .ref 18, .ref 19, .int (u.1 21), .int (u.1 22), .int (u.1 23), .ref 20, .ref 21, .int (u.1 24), .ref 22, .int (u.1 25), .int (u.1 26), .ref 23, .ref 24, .ref 25, .int (u.1 27), .int x, .ref 26, .int (u.1 29), .int (u.1 30)])) = Hp (uS u 28 x) := funext fun i => match i with | 0 => rfl | 1 => rfl | 2 => rfl | 3 => rfl | 4 => rfl | 5 => rfl | 6 => rfl | 7 => rfl | 8 => rfl | 9 => rfl | 10 => rfl | 11 => rfl | 12 => rfl | 13 => rfl | 14 => rfl | 15 => rfl | 16 => rfl | 17 => rfl | 18 => rfl | 19 => rfl | 20 => rfl | 21 => rfl | 22 => rfl | 23 => rfl | 24 => rfl | 25 => rfl | 26 => rfl | _ + 27 => rfl
theorem h_s29 (u : St) (x : Int32) : e_set (Hp u) 15 (.inr (6, [.int (u.1 20), .ref 16, .ref 17, .ref 18, .ref 19, .int (u.1 21), .int (u.1 22), .int (u.1 23), .ref 20, .ref 21, .int (u.1 24), .ref 22, .int (u.1 25), .int (u.1 26), .ref 23, .ref 24, .ref 25, .int (u.1 27), .int (u.1 28), .ref 26, .int x, .int (u.1 30)])) = Hp (uS u 29 x) := funext fun i => match i with | 0 => rfl | 1 => rfl | 2 => rfl | 3 => rfl | 4 => rfl | 5 => rfl | 6 => rfl | 7 => rfl | 8 => rfl | 9 => rfl | 10 => rfl | 11 => rfl | 12 => rfl | 13 => rfl | 14 => rfl | 15 => rfl | 16 => rfl | 17 => rfl | 18 => rfl | 19 => rfl | 20 => rfl | 21 => rfl | 22 => rfl | 23 => rfl | 24 => rfl | 25 => rfl | 26 => rfl | _ + 27 => rfl
theorem h_s30 (u : St) (x : Int32) : e_set (Hp u) 15 (.inr (6, [.int (u.1 20), .ref 16, .ref 17, .ref 18, .ref 19, .int (u.1 21), .int (u.1 22), .int (u.1 23), .ref 20, .ref 21, .int (u.1 24), .ref 22, .int (u.1 25), .int (u.1 26), .ref 23, .ref 24, .ref 25, .int (u.1 27), .int (u.1 28), .ref 26, .int (u.1 29), .int x])) = Hp (uS u 30 x) := funext fun i => match i with | 0 => rfl | 1 => rfl | 2 => rfl | 3 => rfl | 4 => rfl | 5 => rfl | 6 => rfl | 7 => rfl | 8 => rfl | 9 => rfl | 10 => rfl | 11 => rfl | 12 => rfl | 13 => rfl | 14 => rfl | 15 => rfl | 16 => rfl | 17 => rfl | 18 => rfl | 19 => rfl | 20 => rfl | 21 => rfl | 22 => rfl | 23 => rfl | 24 => rfl | 25 => rfl | 26 => rfl | _ + 27 => rfl
theorem f_D : e_Flds "DumpDesk" F_D := by
  intro s args hts
  refine List.forall_mem_cons.mpr ⟨⟨"DumpDesk$Kernel", T_K, 4, "DumpDesk$Kernel", t_K, rfl, (by decide), u_K, hts _ (e_in1 42 rfl rfl), (fun _ h => h), p_K 0 (by decide), (fun h => nomatch h), p_K, n_K⟩, ?_⟩
  refine List.forall_mem_cons.mpr ⟨⟨"DumpDesk$Kernel", T_K, 4, "DumpDesk$Kernel", t_K, rfl, (by decide), u_K, hts _ (e_in1 44 rfl rfl), (fun _ h => h), p_K 1 (by decide), (fun _ => rfl), p_K, n_K⟩, ?_⟩
  refine List.forall_mem_cons.mpr ⟨⟨"DumpDesk$Kernel", T_K, 4, "DumpDesk$Kernel", t_K, rfl, (by decide), u_K, hts _ (e_in1 46 rfl rfl), (fun _ h => h), p_K 2 (by decide), (fun _ => rfl), p_K, n_K⟩, ?_⟩
  refine List.forall_mem_cons.mpr ⟨⟨"DumpDesk$Sectors", T_S, 2, "DumpDesk$Sectors", t_S, rfl, (by decide), u_S, hts _ (e_in1 72 rfl rfl), (fun _ h => h), p_S 0 (by decide), (fun h => nomatch h), p_S, n_S⟩, ?_⟩
  refine List.forall_mem_cons.mpr ⟨⟨"DumpDesk$Sectors", T_S, 2, "DumpDesk$Sectors", t_S, rfl, (by decide), u_S, hts _ (e_in1 74 rfl rfl), (fun _ h => h), p_S 1 (by decide), (fun h => nomatch h), p_S, n_S⟩, ?_⟩
  refine List.forall_mem_cons.mpr ⟨⟨"DumpDesk$Walker", T_Z, 8, "DumpDesk$Walker", t_Z, rfl, (by decide), u_Z, hts _ (e_in1 89 rfl rfl), (fun _ h => h), p_Z 0 (by decide), (fun h => nomatch h), p_Z, n_Z⟩, ?_⟩
  refine List.forall_mem_cons.mpr ⟨⟨"DumpDesk$Walker", T_Z, 8, "DumpDesk$Walker", t_Z, rfl, (by decide), u_Z, hts _ (e_in1 91 rfl rfl), (fun _ h => h), p_Z 1 (by decide), (fun h => nomatch h), p_Z, n_Z⟩, ?_⟩
  refine List.forall_mem_cons.mpr ⟨⟨"DumpDesk$Walker", T_Z, 8, "DumpDesk$Walker", t_Z, rfl, (by decide), u_Z, hts _ (e_in1 93 rfl rfl), (fun _ h => h), p_Z 2 (by decide), (fun _ => rfl), p_Z, n_Z⟩, ?_⟩
  refine List.forall_mem_cons.mpr ⟨⟨"DumpDesk$Walker", T_Z, 8, "DumpDesk$Walker", t_Z, rfl, (by decide), u_Z, hts _ (e_in1 95 rfl rfl), (fun _ h => h), p_Z 3 (by decide), (fun _ => rfl), p_Z, n_Z⟩, ?_⟩
  refine List.forall_mem_cons.mpr ⟨⟨"DumpDesk$Walker", T_Z, 8, "DumpDesk$Walker", t_Z, rfl, (by decide), u_Z, hts _ (e_in1 97 rfl rfl), (fun _ h => h), p_Z 4 (by decide), (fun h => nomatch h), p_Z, n_Z⟩, ?_⟩
  refine List.forall_mem_cons.mpr ⟨⟨"DumpDesk$Walker", T_Z, 8, "DumpDesk$Walker", t_Z, rfl, (by decide), u_Z, hts _ (e_in1 99 rfl rfl), (fun _ h => h), p_Z 5 (by decide), (fun _ => rfl), p_Z, n_Z⟩, ?_⟩
  refine List.forall_mem_cons.mpr ⟨⟨"DumpDesk$Walker", T_Z, 8, "DumpDesk$Walker", t_Z, rfl, (by decide), u_Z, hts _ (e_in1 101 rfl rfl), (fun _ h => h), p_Z 6 (by decide), (fun _ => rfl), p_Z, n_Z⟩, ?_⟩
  refine List.forall_mem_cons.mpr ⟨⟨"DumpDesk$Walker", T_Z, 8, "DumpDesk$Walker", t_Z, rfl, (by decide), u_Z, hts _ (e_in1 103 rfl rfl), (fun _ h => h), p_Z 7 (by decide), (fun _ => rfl), p_Z, n_Z⟩, ?_⟩
  refine List.forall_mem_cons.mpr ⟨⟨"DumpDesk", T_D, 5, "DumpDesk", t_D, rfl, (by decide), u_D, hts _ (e_in1 162 rfl rfl), (fun _ h => h), p_D 0 (by decide), (fun h => nomatch h), p_D, n_D⟩, ?_⟩
  refine List.forall_mem_cons.mpr ⟨⟨"DumpDesk", T_D, 5, "DumpDesk", t_D, rfl, (by decide), u_D, hts _ (e_in1 163 rfl rfl), (fun _ h => h), p_D 1 (by decide), (fun h => nomatch h), p_D, n_D⟩, ?_⟩
  refine List.forall_mem_cons.mpr ⟨⟨"DumpDesk", T_D, 5, "DumpDesk", t_D, rfl, (by decide), u_D, hts _ (e_in1 164 rfl rfl), (fun _ h => h), p_D 2 (by decide), (fun h => nomatch h), p_D, n_D⟩, ?_⟩
  refine List.forall_mem_cons.mpr ⟨⟨"DumpDesk", T_D, 5, "DumpDesk", t_D, rfl, (by decide), u_D, hts _ (e_in1 165 rfl rfl), (fun _ h => h), p_D 3 (by decide), (fun h => nomatch h), p_D, n_D⟩, ?_⟩
  refine List.forall_mem_cons.mpr ⟨⟨"DumpDesk", T_D, 5, "DumpDesk", t_D, rfl, (by decide), u_D, hts _ (e_in1 166 rfl rfl), (fun _ h => h), p_D 4 (by decide), (fun h => nomatch h), p_D, n_D⟩, ?_⟩
  exact fun x hx => (by cases hx)
theorem c_D : (∀ x ∈ C_D, x.1 < 100000 → Jvm.Cond.constant "DumpDesk" x.1 x.2 ∈ e_wd) ∧ ∀ i v, (i + 100000, v) ∈ C_D → Jvm.Cond.constantLong "DumpDesk" i v.toInt64 ∈ e_wd := by
  refine ⟨?_, ?_⟩
  · exact fun x hx => (by cases hx)
  · intro i v h
    simp only [C_D, List.mem_cons, Prod.mk.injEq, List.not_mem_nil, or_false] at h
    try exact h.elim
theorem f_K : e_Flds "DumpDesk$Kernel" F_K := by
  intro s args hts
  refine List.forall_mem_cons.mpr ⟨⟨"DumpDesk$Kernel", T_K, 4, "DumpDesk$Kernel", t_K, rfl, (by decide), u_K, hts _ (e_in1 40 rfl rfl), (fun _ h => h), p_K 0 (by decide), (fun h => nomatch h), p_K, n_K⟩, ?_⟩
  refine List.forall_mem_cons.mpr ⟨⟨"DumpDesk$Kernel", T_K, 4, "DumpDesk$Kernel", t_K, rfl, (by decide), u_K, hts _ (e_in1 43 rfl rfl), (fun _ h => h), p_K 1 (by decide), (fun _ => rfl), p_K, n_K⟩, ?_⟩
  refine List.forall_mem_cons.mpr ⟨⟨"DumpDesk$Kernel", T_K, 4, "DumpDesk$Kernel", t_K, rfl, (by decide), u_K, hts _ (e_in1 45 rfl rfl), (fun _ h => h), p_K 2 (by decide), (fun _ => rfl), p_K, n_K⟩, ?_⟩
  refine List.forall_mem_cons.mpr ⟨⟨"DumpDesk$Kernel", T_K, 4, "DumpDesk$Kernel", t_K, rfl, (by decide), u_K, hts _ (e_in1 47 rfl rfl), (fun _ h => h), p_K 3 (by decide), (fun _ => rfl), p_K, n_K⟩, ?_⟩
  exact fun x hx => (by cases hx)
theorem c_K : (∀ x ∈ C_K, x.1 < 100000 → Jvm.Cond.constant "DumpDesk$Kernel" x.1 x.2 ∈ e_wd) ∧ ∀ i v, (i + 100000, v) ∈ C_K → Jvm.Cond.constantLong "DumpDesk$Kernel" i v.toInt64 ∈ e_wd := by
  refine ⟨?_, ?_⟩
  · exact fun x hx => (by cases hx)
  · intro i v h
    simp only [C_K, List.mem_cons, Prod.mk.injEq, List.not_mem_nil, or_false] at h
    try exact h.elim
theorem f_S : e_Flds "DumpDesk$Sectors" F_S := by
  intro s args hts
  refine List.forall_mem_cons.mpr ⟨⟨"DumpDesk$Sectors", T_S, 2, "DumpDesk$Sectors", t_S, rfl, (by decide), u_S, hts _ (e_in1 71 rfl rfl), (fun _ h => h), p_S 0 (by decide), (fun h => nomatch h), p_S, n_S⟩, ?_⟩
  refine List.forall_mem_cons.mpr ⟨⟨"DumpDesk$Sectors", T_S, 2, "DumpDesk$Sectors", t_S, rfl, (by decide), u_S, hts _ (e_in1 73 rfl rfl), (fun _ h => h), p_S 1 (by decide), (fun h => nomatch h), p_S, n_S⟩, ?_⟩
  exact fun x hx => (by cases hx)
theorem c_S : (∀ x ∈ C_S, x.1 < 100000 → Jvm.Cond.constant "DumpDesk$Sectors" x.1 x.2 ∈ e_wd) ∧ ∀ i v, (i + 100000, v) ∈ C_S → Jvm.Cond.constantLong "DumpDesk$Sectors" i v.toInt64 ∈ e_wd := by
  refine ⟨?_, ?_⟩
  · exact fun x hx => (by cases hx)
  · intro i v h
    simp only [C_S, List.mem_cons, Prod.mk.injEq, List.not_mem_nil, or_false] at h
    try exact h.elim
theorem f_G : e_Flds "DumpDesk$Chunks" F_G := by
  intro s args hts
  exact fun x hx => (by cases hx)
theorem c_G : (∀ x ∈ C_G, x.1 < 100000 → Jvm.Cond.constant "DumpDesk$Chunks" x.1 x.2 ∈ e_wd) ∧ ∀ i v, (i + 100000, v) ∈ C_G → Jvm.Cond.constantLong "DumpDesk$Chunks" i v.toInt64 ∈ e_wd := by
  refine ⟨?_, ?_⟩
  · exact fun x hx => (by cases hx)
  · intro i v h
    simp only [C_G, List.mem_cons, Prod.mk.injEq, List.not_mem_nil, or_false] at h
    try exact h.elim
theorem f_Q : e_Flds "DumpDesk$Packing" F_Q := by
  intro s args hts
  exact fun x hx => (by cases hx)
theorem c_Q : (∀ x ∈ C_Q, x.1 < 100000 → Jvm.Cond.constant "DumpDesk$Packing" x.1 x.2 ∈ e_wd) ∧ ∀ i v, (i + 100000, v) ∈ C_Q → Jvm.Cond.constantLong "DumpDesk$Packing" i v.toInt64 ∈ e_wd := by
  refine ⟨?_, ?_⟩
  · exact fun x hx => (by cases hx)
  · intro i v h
    simp only [C_Q, List.mem_cons, Prod.mk.injEq, List.not_mem_nil, or_false] at h
    try exact h.elim
theorem f_V : e_Flds "DumpDesk$Writer" F_V := by
  intro s args hts
  refine List.forall_mem_cons.mpr ⟨⟨"DumpDesk$Kernel", T_K, 4, "DumpDesk$Kernel", t_K, rfl, (by decide), u_K, hts _ (e_in1 41 rfl rfl), (fun _ h => h), p_K 0 (by decide), (fun h => nomatch h), p_K, n_K⟩, ?_⟩
  refine List.forall_mem_cons.mpr ⟨⟨"DumpDesk$Writer", T_V, 5, "DumpDesk$Writer", t_V, rfl, (by decide), u_V, hts _ (e_in1 127 rfl rfl), (fun _ h => h), p_V 0 (by decide), (fun h => nomatch h), p_V, n_V⟩, ?_⟩
  refine List.forall_mem_cons.mpr ⟨⟨"DumpDesk$Writer", T_V, 5, "DumpDesk$Writer", t_V, rfl, (by decide), u_V, hts _ (e_in1 128 rfl rfl), (fun _ h => h), p_V 1 (by decide), (fun h => nomatch h), p_V, n_V⟩, ?_⟩
  refine List.forall_mem_cons.mpr ⟨⟨"DumpDesk$Writer", T_V, 5, "DumpDesk$Writer", t_V, rfl, (by decide), u_V, hts _ (e_in1 129 rfl rfl), (fun _ h => h), p_V 2 (by decide), (fun _ => rfl), p_V, n_V⟩, ?_⟩
  refine List.forall_mem_cons.mpr ⟨⟨"DumpDesk$Writer", T_V, 5, "DumpDesk$Writer", t_V, rfl, (by decide), u_V, hts _ (e_in1 130 rfl rfl), (fun _ h => h), p_V 3 (by decide), (fun _ => rfl), p_V, n_V⟩, ?_⟩
  refine List.forall_mem_cons.mpr ⟨⟨"DumpDesk$Writer", T_V, 5, "DumpDesk$Writer", t_V, rfl, (by decide), u_V, hts _ (e_in1 131 rfl rfl), (fun _ h => h), p_V 4 (by decide), (fun _ => rfl), p_V, n_V⟩, ?_⟩
  exact fun x hx => (by cases hx)
theorem c_V : (∀ x ∈ C_V, x.1 < 100000 → Jvm.Cond.constant "DumpDesk$Writer" x.1 x.2 ∈ e_wd) ∧ ∀ i v, (i + 100000, v) ∈ C_V → Jvm.Cond.constantLong "DumpDesk$Writer" i v.toInt64 ∈ e_wd := by
  refine ⟨?_, ?_⟩
  · refine List.forall_mem_cons.mpr ⟨fun _ => (e_in3 56 rfl rfl), ?_⟩
    exact fun x hx => (by cases hx)
  · intro i v h
    simp only [C_V, List.mem_cons, Prod.mk.injEq, List.not_mem_nil, or_false] at h
    omega
theorem f_U : e_Flds "DumpDesk$Reader" F_U := by
  intro s args hts
  refine List.forall_mem_cons.mpr ⟨⟨"DumpDesk$Walker", T_Z, 8, "DumpDesk$Walker", t_Z, rfl, (by decide), u_Z, hts _ (e_in1 88 rfl rfl), (fun _ h => h), p_Z 0 (by decide), (fun h => nomatch h), p_Z, n_Z⟩, ?_⟩
  refine List.forall_mem_cons.mpr ⟨⟨"DumpDesk$Reader", T_U, 4, "DumpDesk$Reader", t_U, rfl, (by decide), u_U, hts _ (e_in1 149 rfl rfl), (fun _ h => h), p_U 0 (by decide), (fun h => nomatch h), p_U, n_U⟩, ?_⟩
  refine List.forall_mem_cons.mpr ⟨⟨"DumpDesk$Reader", T_U, 4, "DumpDesk$Reader", t_U, rfl, (by decide), u_U, hts _ (e_in1 150 rfl rfl), (fun _ h => h), p_U 1 (by decide), (fun h => nomatch h), p_U, n_U⟩, ?_⟩
  refine List.forall_mem_cons.mpr ⟨⟨"DumpDesk$Reader", T_U, 4, "DumpDesk$Reader", t_U, rfl, (by decide), u_U, hts _ (e_in1 151 rfl rfl), (fun _ h => h), p_U 2 (by decide), (fun h => nomatch h), p_U, n_U⟩, ?_⟩
  refine List.forall_mem_cons.mpr ⟨⟨"DumpDesk$Reader", T_U, 4, "DumpDesk$Reader", t_U, rfl, (by decide), u_U, hts _ (e_in1 152 rfl rfl), (fun _ h => h), p_U 3 (by decide), (fun _ => rfl), p_U, n_U⟩, ?_⟩
  exact fun x hx => (by cases hx)
theorem c_U : (∀ x ∈ C_U, x.1 < 100000 → Jvm.Cond.constant "DumpDesk$Reader" x.1 x.2 ∈ e_wd) ∧ ∀ i v, (i + 100000, v) ∈ C_U → Jvm.Cond.constantLong "DumpDesk$Reader" i v.toInt64 ∈ e_wd := by
  refine ⟨?_, ?_⟩
  · refine List.forall_mem_cons.mpr ⟨fun _ => (e_in1 213 rfl rfl), ?_⟩
    exact fun x hx => (by cases hx)
  · intro i v h
    simp only [C_U, List.mem_cons, Prod.mk.injEq, List.not_mem_nil, or_false] at h
    omega
theorem f_Z : e_Flds "DumpDesk$Walker" F_Z := by
  intro s args hts
  refine List.forall_mem_cons.mpr ⟨⟨"DumpDesk$Walker", T_Z, 8, "DumpDesk$Walker", t_Z, rfl, (by decide), u_Z, hts _ (e_in1 87 rfl rfl), (fun _ h => h), p_Z 0 (by decide), (fun h => nomatch h), p_Z, n_Z⟩, ?_⟩
  refine List.forall_mem_cons.mpr ⟨⟨"DumpDesk$Walker", T_Z, 8, "DumpDesk$Walker", t_Z, rfl, (by decide), u_Z, hts _ (e_in1 90 rfl rfl), (fun _ h => h), p_Z 1 (by decide), (fun h => nomatch h), p_Z, n_Z⟩, ?_⟩
  refine List.forall_mem_cons.mpr ⟨⟨"DumpDesk$Walker", T_Z, 8, "DumpDesk$Walker", t_Z, rfl, (by decide), u_Z, hts _ (e_in1 92 rfl rfl), (fun _ h => h), p_Z 2 (by decide), (fun _ => rfl), p_Z, n_Z⟩, ?_⟩
  refine List.forall_mem_cons.mpr ⟨⟨"DumpDesk$Walker", T_Z, 8, "DumpDesk$Walker", t_Z, rfl, (by decide), u_Z, hts _ (e_in1 94 rfl rfl), (fun _ h => h), p_Z 3 (by decide), (fun _ => rfl), p_Z, n_Z⟩, ?_⟩
  refine List.forall_mem_cons.mpr ⟨⟨"DumpDesk$Walker", T_Z, 8, "DumpDesk$Walker", t_Z, rfl, (by decide), u_Z, hts _ (e_in1 96 rfl rfl), (fun _ h => h), p_Z 4 (by decide), (fun h => nomatch h), p_Z, n_Z⟩, ?_⟩
  refine List.forall_mem_cons.mpr ⟨⟨"DumpDesk$Walker", T_Z, 8, "DumpDesk$Walker", t_Z, rfl, (by decide), u_Z, hts _ (e_in1 98 rfl rfl), (fun _ h => h), p_Z 5 (by decide), (fun _ => rfl), p_Z, n_Z⟩, ?_⟩
  refine List.forall_mem_cons.mpr ⟨⟨"DumpDesk$Walker", T_Z, 8, "DumpDesk$Walker", t_Z, rfl, (by decide), u_Z, hts _ (e_in1 100 rfl rfl), (fun _ h => h), p_Z 6 (by decide), (fun _ => rfl), p_Z, n_Z⟩, ?_⟩
  refine List.forall_mem_cons.mpr ⟨⟨"DumpDesk$Walker", T_Z, 8, "DumpDesk$Walker", t_Z, rfl, (by decide), u_Z, hts _ (e_in1 102 rfl rfl), (fun _ h => h), p_Z 7 (by decide), (fun _ => rfl), p_Z, n_Z⟩, ?_⟩
  exact fun x hx => (by cases hx)
theorem c_Z : (∀ x ∈ C_Z, x.1 < 100000 → Jvm.Cond.constant "DumpDesk$Walker" x.1 x.2 ∈ e_wd) ∧ ∀ i v, (i + 100000, v) ∈ C_Z → Jvm.Cond.constantLong "DumpDesk$Walker" i v.toInt64 ∈ e_wd := by
  refine ⟨?_, ?_⟩
  · exact fun x hx => (by cases hx)
  · intro i v h
    simp only [C_Z, List.mem_cons, Prod.mk.injEq, List.not_mem_nil, or_false] at h
    try exact h.elim
theorem f_M : e_Flds "DumpDeskModel" F_M := by
  intro s args hts
  refine List.forall_mem_cons.mpr ⟨⟨"DumpDeskModel", T_M, 22, "DumpDeskModel", t_M, rfl, (by decide), u_M, hts _ (e_in3 129 rfl rfl), (fun _ h => h), p_M 0 (by decide), (fun _ => rfl), p_M, n_M⟩, ?_⟩
  refine List.forall_mem_cons.mpr ⟨⟨"DumpDeskModel", T_M, 22, "DumpDeskModel", t_M, rfl, (by decide), u_M, hts _ (e_in3 130 rfl rfl), (fun _ h => h), p_M 1 (by decide), (fun h => nomatch h), p_M, n_M⟩, ?_⟩
  refine List.forall_mem_cons.mpr ⟨⟨"DumpDeskModel", T_M, 22, "DumpDeskModel", t_M, rfl, (by decide), u_M, hts _ (e_in3 131 rfl rfl), (fun _ h => h), p_M 2 (by decide), (fun h => nomatch h), p_M, n_M⟩, ?_⟩
  refine List.forall_mem_cons.mpr ⟨⟨"DumpDeskModel", T_M, 22, "DumpDeskModel", t_M, rfl, (by decide), u_M, hts _ (e_in3 132 rfl rfl), (fun _ h => h), p_M 3 (by decide), (fun h => nomatch h), p_M, n_M⟩, ?_⟩
  refine List.forall_mem_cons.mpr ⟨⟨"DumpDeskModel", T_M, 22, "DumpDeskModel", t_M, rfl, (by decide), u_M, hts _ (e_in3 133 rfl rfl), (fun _ h => h), p_M 4 (by decide), (fun h => nomatch h), p_M, n_M⟩, ?_⟩
  refine List.forall_mem_cons.mpr ⟨⟨"DumpDeskModel", T_M, 22, "DumpDeskModel", t_M, rfl, (by decide), u_M, hts _ (e_in3 134 rfl rfl), (fun _ h => h), p_M 5 (by decide), (fun _ => rfl), p_M, n_M⟩, ?_⟩
  refine List.forall_mem_cons.mpr ⟨⟨"DumpDeskModel", T_M, 22, "DumpDeskModel", t_M, rfl, (by decide), u_M, hts _ (e_in3 135 rfl rfl), (fun _ h => h), p_M 6 (by decide), (fun _ => rfl), p_M, n_M⟩, ?_⟩
  refine List.forall_mem_cons.mpr ⟨⟨"DumpDeskModel", T_M, 22, "DumpDeskModel", t_M, rfl, (by decide), u_M, hts _ (e_in3 136 rfl rfl), (fun _ h => h), p_M 7 (by decide), (fun _ => rfl), p_M, n_M⟩, ?_⟩
  refine List.forall_mem_cons.mpr ⟨⟨"DumpDeskModel", T_M, 22, "DumpDeskModel", t_M, rfl, (by decide), u_M, hts _ (e_in3 137 rfl rfl), (fun _ h => h), p_M 8 (by decide), (fun h => nomatch h), p_M, n_M⟩, ?_⟩
  refine List.forall_mem_cons.mpr ⟨⟨"DumpDeskModel", T_M, 22, "DumpDeskModel", t_M, rfl, (by decide), u_M, hts _ (e_in3 138 rfl rfl), (fun _ h => h), p_M 9 (by decide), (fun h => nomatch h), p_M, n_M⟩, ?_⟩
  refine List.forall_mem_cons.mpr ⟨⟨"DumpDeskModel", T_M, 22, "DumpDeskModel", t_M, rfl, (by decide), u_M, hts _ (e_in3 139 rfl rfl), (fun _ h => h), p_M 10 (by decide), (fun _ => rfl), p_M, n_M⟩, ?_⟩
  refine List.forall_mem_cons.mpr ⟨⟨"DumpDeskModel", T_M, 22, "DumpDeskModel", t_M, rfl, (by decide), u_M, hts _ (e_in3 140 rfl rfl), (fun _ h => h), p_M 11 (by decide), (fun h => nomatch h), p_M, n_M⟩, ?_⟩
  refine List.forall_mem_cons.mpr ⟨⟨"DumpDeskModel", T_M, 22, "DumpDeskModel", t_M, rfl, (by decide), u_M, hts _ (e_in3 141 rfl rfl), (fun _ h => h), p_M 12 (by decide), (fun _ => rfl), p_M, n_M⟩, ?_⟩
  refine List.forall_mem_cons.mpr ⟨⟨"DumpDeskModel", T_M, 22, "DumpDeskModel", t_M, rfl, (by decide), u_M, hts _ (e_in3 142 rfl rfl), (fun _ h => h), p_M 13 (by decide), (fun _ => rfl), p_M, n_M⟩, ?_⟩
  refine List.forall_mem_cons.mpr ⟨⟨"DumpDeskModel", T_M, 22, "DumpDeskModel", t_M, rfl, (by decide), u_M, hts _ (e_in3 143 rfl rfl), (fun _ h => h), p_M 14 (by decide), (fun h => nomatch h), p_M, n_M⟩, ?_⟩
  refine List.forall_mem_cons.mpr ⟨⟨"DumpDeskModel", T_M, 22, "DumpDeskModel", t_M, rfl, (by decide), u_M, hts _ (e_in3 144 rfl rfl), (fun _ h => h), p_M 15 (by decide), (fun h => nomatch h), p_M, n_M⟩, ?_⟩
  refine List.forall_mem_cons.mpr ⟨⟨"DumpDeskModel", T_M, 22, "DumpDeskModel", t_M, rfl, (by decide), u_M, hts _ (e_in3 145 rfl rfl), (fun _ h => h), p_M 16 (by decide), (fun h => nomatch h), p_M, n_M⟩, ?_⟩
  refine List.forall_mem_cons.mpr ⟨⟨"DumpDeskModel", T_M, 22, "DumpDeskModel", t_M, rfl, (by decide), u_M, hts _ (e_in3 146 rfl rfl), (fun _ h => h), p_M 17 (by decide), (fun _ => rfl), p_M, n_M⟩, ?_⟩
  refine List.forall_mem_cons.mpr ⟨⟨"DumpDeskModel", T_M, 22, "DumpDeskModel", t_M, rfl, (by decide), u_M, hts _ (e_in3 147 rfl rfl), (fun _ h => h), p_M 18 (by decide), (fun _ => rfl), p_M, n_M⟩, ?_⟩
  refine List.forall_mem_cons.mpr ⟨⟨"DumpDeskModel", T_M, 22, "DumpDeskModel", t_M, rfl, (by decide), u_M, hts _ (e_in3 148 rfl rfl), (fun _ h => h), p_M 19 (by decide), (fun h => nomatch h), p_M, n_M⟩, ?_⟩
  refine List.forall_mem_cons.mpr ⟨⟨"DumpDeskModel", T_M, 22, "DumpDeskModel", t_M, rfl, (by decide), u_M, hts _ (e_in3 149 rfl rfl), (fun _ h => h), p_M 20 (by decide), (fun _ => rfl), p_M, n_M⟩, ?_⟩
  refine List.forall_mem_cons.mpr ⟨⟨"DumpDeskModel", T_M, 22, "DumpDeskModel", t_M, rfl, (by decide), u_M, hts _ (e_in3 150 rfl rfl), (fun _ h => h), p_M 21 (by decide), (fun _ => rfl), p_M, n_M⟩, ?_⟩
  exact fun x hx => (by cases hx)
theorem c_M : (∀ x ∈ C_M, x.1 < 100000 → Jvm.Cond.constant "DumpDeskModel" x.1 x.2 ∈ e_wd) ∧ ∀ i v, (i + 100000, v) ∈ C_M → Jvm.Cond.constantLong "DumpDeskModel" i v.toInt64 ∈ e_wd := by
  refine ⟨?_, ?_⟩
  · refine List.forall_mem_cons.mpr ⟨fun _ => (e_in4 59 rfl rfl), ?_⟩
    refine List.forall_mem_cons.mpr ⟨fun h => absurd h (by decide), ?_⟩
    exact fun x hx => (by cases hx)
  · intro i v h
    simp only [C_M, List.mem_cons, Prod.mk.injEq, List.not_mem_nil, or_false] at h
    rcases h with ⟨h1, h2⟩ | ⟨h1, h2⟩
    · omega
    · have h1 : i = 133 := by omega
      subst h1; subst h2
      exact (e_in4 91 rfl rfl)
theorem f_A : e_Flds "java/util/Arrays" F_A := by
  intro s args hts
  exact fun x hx => (by cases hx)
theorem c_A : (∀ x ∈ C_A, x.1 < 100000 → Jvm.Cond.constant "java/util/Arrays" x.1 x.2 ∈ e_wd) ∧ ∀ i v, (i + 100000, v) ∈ C_A → Jvm.Cond.constantLong "java/util/Arrays" i v.toInt64 ∈ e_wd := by
  refine ⟨?_, ?_⟩
  · exact fun x hx => (by cases hx)
  · intro i v h
    simp only [C_A, List.mem_cons, Prod.mk.injEq, List.not_mem_nil, or_false] at h
    try exact h.elim
theorem f_H : e_Flds "java/lang/Math" F_H := by
  intro s args hts
  exact fun x hx => (by cases hx)
theorem c_H : (∀ x ∈ C_H, x.1 < 100000 → Jvm.Cond.constant "java/lang/Math" x.1 x.2 ∈ e_wd) ∧ ∀ i v, (i + 100000, v) ∈ C_H → Jvm.Cond.constantLong "java/lang/Math" i v.toInt64 ∈ e_wd := by
  refine ⟨?_, ?_⟩
  · exact fun x hx => (by cases hx)
  · intro i v h
    simp only [C_H, List.mem_cons, Prod.mk.injEq, List.not_mem_nil, or_false] at h
    try exact h.elim
theorem f_L : e_Flds "DumpDeskLaw" F_L := by
  intro s args hts
  exact fun x hx => (by cases hx)
theorem c_L : (∀ x ∈ C_L, x.1 < 100000 → Jvm.Cond.constant "DumpDeskLaw" x.1 x.2 ∈ e_wd) ∧ ∀ i v, (i + 100000, v) ∈ C_L → Jvm.Cond.constantLong "DumpDeskLaw" i v.toInt64 ∈ e_wd := by
  refine ⟨?_, ?_⟩
  · exact fun x hx => (by cases hx)
  · intro i v h
    simp only [C_L, List.mem_cons, Prod.mk.injEq, List.not_mem_nil, or_false] at h
    try exact h.elim
