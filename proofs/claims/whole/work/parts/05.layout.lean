abbrev zF : Type := Nat → Int32

abbrev tX0 : Type := zF × zF
abbrev tX3 : Type := zF × zF × zF × Int32 × Int32
abbrev tX6 : Type := tX0 × tX3 × zF × zF × Int32 × Int32 × Int32 × Int32 × Int32
def zup (f : Nat → tX6) (k : Nat) (x : tX6) : Nat → tX6 := fun j => bif Nat.beq j k then x else f j
abbrev tX1 : Type := zF × Int32 × zF × Int32 × Int32 × Int32
abbrev tX4 : Type := zF × tX0 × zF × zF × zF × zF × Int32 × Int32
abbrev tX5 : Type := tX4
abbrev tX2 : Type := (Nat → tX6) × Int32 × Int32
abbrev tX7 : Type := tX6 × tX6 × tX2 × tX1 × tX5
abbrev tX8 : Type := Int32 × zF × zF × zF × Int32 × zF × Int32 × Int32 × Bool × zF × Int32 × zF × zF × zF × zF × Int64
def dX0 (g : zG) (a : Nat → Nat) (x0 : zF) (x1 : zF) : va_W := [(a 0, .inr (0, [.ref (a 1), .ref (a 2)])), (a 1, .inl (g.2.1, 12, .inl x0)), (a 2, .inl (g.2.1, 12, .inl x1))]
def cX0 (g : zG) (a : Nat → Nat) (u : tX0) : va_W := dX0 g a u.1 u.2
def dX3 (g : zG) (a : Nat → Nat) (x0 : zF) (x1 : zF) (x2 : zF) (x3 : Int32) (x4 : Int32) : va_W := [(a 0, .inr (3, [.ref (a 1), .ref (a 2), .ref (a 3), .int x3, .int x4])), (a 1, .inl (g.2.1, 40, .inl x0)), (a 2, .inl (g.2.1, 40, .inl x1)), (a 3, .inl (g.2.1, 40, .inl x2))]
def cX3 (g : zG) (a : Nat → Nat) (u : tX3) : va_W := dX3 g a u.1 u.2.1 u.2.2.1 u.2.2.2.1 u.2.2.2.2
def dX6 (g : zG) (a : Nat → Nat) (x0 : zF) (x1 : zF) (x2 : zF) (x3 : zF) (x4 : zF) (x5 : Int32) (x6 : Int32) (x7 : zF) (x8 : zF) (x9 : Int32) (x10 : Int32) (x11 : Int32) (x12 : Int32) (x13 : Int32) : va_W := [(a 0, .inr (6, [.ref (a 1), .ref (a 4), .ref (a 8), .ref (a 9), .int x9, .int x10, .int x11, .int x12, .int x13])), (a 1, .inr (0, [.ref (a 2), .ref (a 3)])), (a 2, .inl (g.2.1, 12, .inl x0)), (a 3, .inl (g.2.1, 12, .inl x1)), (a 4, .inr (3, [.ref (a 5), .ref (a 6), .ref (a 7), .int x5, .int x6])), (a 5, .inl (g.2.1, 40, .inl x2)), (a 6, .inl (g.2.1, 40, .inl x3)), (a 7, .inl (g.2.1, 40, .inl x4)), (a 8, .inl (g.2.1, 12, .inl x7)), (a 9, .inl (g.2.1, 3, .inl x8))]
def cX6 (g : zG) (a : Nat → Nat) (u : tX6) : va_W := dX6 g a u.1.1 u.1.2 u.2.1.1 u.2.1.2.1 u.2.1.2.2.1 u.2.1.2.2.2.1 u.2.1.2.2.2.2 u.2.2.1 u.2.2.2.1 u.2.2.2.2.1 u.2.2.2.2.2.1 u.2.2.2.2.2.2.1 u.2.2.2.2.2.2.2.1 u.2.2.2.2.2.2.2.2
def dX1 (g : zG) (a : Nat → Nat) (x0 : zF) (x1 : Int32) (x2 : zF) (x3 : Int32) (x4 : Int32) (x5 : Int32) : va_W := [(a 0, .inr (1, [.ref (a 1), .int x1, .ref (a 2), .int x3, .int x4, .int x5])), (a 1, .inl (g.2.1, 60, .inl x0)), (a 2, .inl (g.2.1, 6, .inl x2))]
def cX1 (g : zG) (a : Nat → Nat) (u : tX1) : va_W := dX1 g a u.1 u.2.1 u.2.2.1 u.2.2.2.1 u.2.2.2.2.1 u.2.2.2.2.2
def dX4 (g : zG) (a : Nat → Nat) (x0 : zF) (x1 : zF) (x2 : zF) (x3 : zF) (x4 : zF) (x5 : zF) (x6 : zF) (x7 : Int32) (x8 : Int32) : va_W := [(a 0, .inr (4, [.ref (a 1), .ref (a 2), .ref (a 5), .ref (a 6), .ref (a 7), .ref (a 8), .int x7, .int x8])), (a 1, .inl (g.2.1, 6, .inl x0)), (a 2, .inr (0, [.ref (a 3), .ref (a 4)])), (a 3, .inl (g.2.1, 12, .inl x1)), (a 4, .inl (g.2.1, 12, .inl x2)), (a 5, .inl (g.2.1, 6, .inl x3)), (a 6, .inl (g.2.1, 6, .inl x4)), (a 7, .inl (g.2.1, 384, .inl x5)), (a 8, .inl (g.2.1, 384, .inl x6))]
def cX4 (g : zG) (a : Nat → Nat) (u : tX4) : va_W := dX4 g a u.1 u.2.1.1 u.2.1.2 u.2.2.1 u.2.2.2.1 u.2.2.2.2.1 u.2.2.2.2.2.1 u.2.2.2.2.2.2.1 u.2.2.2.2.2.2.2
def cX5h (g : zG) (a : Nat → Nat) : va_W := [(a 0, .inr (5, [.ref (a 1)]))]
def kX5 (g : zG) (a : Nat → Nat) (u : tX5) : List va_W := [cX5h g a, cX4 g (fun i => a (i + 1)) u]
def cX2h (g : zG) (a : Nat → Nat) (u : tX2) : va_W := [(a 0, .inr (2, [.ref (a 1), .int u.2.1, .int u.2.2])), (a 1, .inl (g.2.2.2.2, 6, .inr (.inr (.inr (.inr (fun j => some (a (2 + 10 * j))))))))]
def kX2 (g : zG) (a : Nat → Nat) (u : tX2) : List va_W := [cX2h g a u, cX6 g (fun i => a (i + 2)) (u.1 0), cX6 g (fun i => a (i + 12)) (u.1 1), cX6 g (fun i => a (i + 22)) (u.1 2), cX6 g (fun i => a (i + 32)) (u.1 3), cX6 g (fun i => a (i + 42)) (u.1 4), cX6 g (fun i => a (i + 52)) (u.1 5)]
def cX7h (g : zG) (a : Nat → Nat) : va_W := [(a 0, .inr (7, [.ref (a 1), .ref (a 11), .ref (a 21), .ref (a 83), .ref (a 86)]))]
def kX7 (g : zG) (a : Nat → Nat) (u : tX7) : List va_W := [cX7h g a, cX6 g (fun i => a (i + 1)) u.1, cX6 g (fun i => a (i + 11)) u.2.1, cX2h g (fun i => a (i + 21)) u.2.2.1, cX6 g (fun i => a (i + 2 + 21)) (u.2.2.1.1 0), cX6 g (fun i => a (i + 12 + 21)) (u.2.2.1.1 1), cX6 g (fun i => a (i + 22 + 21)) (u.2.2.1.1 2), cX6 g (fun i => a (i + 32 + 21)) (u.2.2.1.1 3), cX6 g (fun i => a (i + 42 + 21)) (u.2.2.1.1 4), cX6 g (fun i => a (i + 52 + 21)) (u.2.2.1.1 5), cX1 g (fun i => a (i + 83)) u.2.2.2.1, cX5h g (fun i => a (i + 86)), cX4 g (fun i => a (i + 1 + 86)) u.2.2.2.2]
def dX8 (g : zG) (a : Nat → Nat) (x0 : Int32) (x1 : zF) (x2 : zF) (x3 : zF) (x4 : Int32) (x5 : zF) (x6 : Int32) (x7 : Int32) (x8 : Bool) (x9 : zF) (x10 : Int32) (x11 : zF) (x12 : zF) (x13 : zF) (x14 : zF) (x15 : Int64) : va_W := [(a 0, .inr (8, [.int x0, .ref (a 1), .ref (a 2), .ref (a 3), .int x4, .ref (a 4), .int x6, .int x7, .int (b2i x8), .ref (a 5), .int x10, .ref (a 6), .ref (a 7), .ref (a 8), .ref (a 9), .long x15])), (a 1, .inl (g.2.1, 142, .inl x1)), (a 2, .inl (g.2.1, 142, .inl x2)), (a 3, .inl (g.2.1, 852, .inl x3)), (a 4, .inl (g.2.1, 60, .inl x5)), (a 5, .inl (g.2.1, 6, .inl x9)), (a 6, .inl (g.2.1, 6, .inl x11)), (a 7, .inl (g.2.1, 6, .inl x12)), (a 8, .inl (g.2.2.1, 6, .inl x13)), (a 9, .inl (g.2.1, 142, .inl x14))]
def cX8 (g : zG) (a : Nat → Nat) (u : tX8) : va_W := dX8 g a u.1 u.2.1 u.2.2.1 u.2.2.2.1 u.2.2.2.2.1 u.2.2.2.2.2.1 u.2.2.2.2.2.2.1 u.2.2.2.2.2.2.2.1 u.2.2.2.2.2.2.2.2.1 u.2.2.2.2.2.2.2.2.2.1 u.2.2.2.2.2.2.2.2.2.2.1 u.2.2.2.2.2.2.2.2.2.2.2.1 u.2.2.2.2.2.2.2.2.2.2.2.2.1 u.2.2.2.2.2.2.2.2.2.2.2.2.2.1 u.2.2.2.2.2.2.2.2.2.2.2.2.2.2.1 u.2.2.2.2.2.2.2.2.2.2.2.2.2.2.2
theorem zin {x : Int32} {n : Nat} (h1 : ¬ x < 0) (h2 : ¬ nI n ≤ x) (hn : n < 2 ^ 31) : vp_in x n := by
  obtain ⟨j, hj, rfl⟩ := nI_of h1
  exact vp_in_nI (Nat.not_le.mp fun h => h2 (nI_le h hj)) hn
