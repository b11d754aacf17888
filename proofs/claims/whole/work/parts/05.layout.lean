abbrev zF : Type := Nat → Int32

abbrev tX0 : Type := zF × zF
abbrev tX3 : Type := zF × zF × zF × Int32 × Int32
abbrev tX6 : Type := tX0 × tX3 × zF × zF × Int32 × Int32 × Int32 × Int32 × Int32
def zup (f : Nat → tX6) (k : Nat) (x : tX6) : Nat → tX6 := fun j => bif Nat.beq j k then x else f j
abbrev tX1 : Type := zF × Int32 × zF × Int32 × Int32 × Int32
abbrev tX4 : Type := zF × tX0 × zF × zF × zF × zF × Int32 × Int32
abbrev tX5 : Type := tX4
abbrev tX2 : Type := (Nat → tX6) × Int32 × Int32
abbrev tX7 : Type := tX6 × tX6 × tX2 × tX1 × tX5
abbrev tX8 : Type := Int32 × zF × zF × zF × Int32 × zF × Int32 × Int32 × Bool × zF × Int32 × zF × zF × zF × zF × Int64
def cX0 (g : zG) (a : Nat → Nat) (u : tX0) : va_W := [(a 0, .inr (0, [.ref (a 1), .ref (a 2)])), (a 1, .inl (g.2.1, 12, .inl u.1)), (a 2, .inl (g.2.1, 12, .inl u.2))]
def cX3 (g : zG) (a : Nat → Nat) (u : tX3) : va_W := [(a 0, .inr (3, [.ref (a 1), .ref (a 2), .ref (a 3), .int u.2.2.2.1, .int u.2.2.2.2])), (a 1, .inl (g.2.1, 40, .inl u.1)), (a 2, .inl (g.2.1, 40, .inl u.2.1)), (a 3, .inl (g.2.1, 40, .inl u.2.2.1))]
def cX6 (g : zG) (a : Nat → Nat) (u : tX6) : va_W := [(a 0, .inr (6, [.ref (a 1), .ref (a 4), .ref (a 8), .ref (a 9), .int u.2.2.2.2.1, .int u.2.2.2.2.2.1, .int u.2.2.2.2.2.2.1, .int u.2.2.2.2.2.2.2.1, .int u.2.2.2.2.2.2.2.2])), (a 1, .inr (0, [.ref (a 2), .ref (a 3)])), (a 2, .inl (g.2.1, 12, .inl u.1.1)), (a 3, .inl (g.2.1, 12, .inl u.1.2)), (a 4, .inr (3, [.ref (a 5), .ref (a 6), .ref (a 7), .int u.2.1.2.2.2.1, .int u.2.1.2.2.2.2])), (a 5, .inl (g.2.1, 40, .inl u.2.1.1)), (a 6, .inl (g.2.1, 40, .inl u.2.1.2.1)), (a 7, .inl (g.2.1, 40, .inl u.2.1.2.2.1)), (a 8, .inl (g.2.1, 12, .inl u.2.2.1)), (a 9, .inl (g.2.1, 3, .inl u.2.2.2.1))]
def cX1 (g : zG) (a : Nat → Nat) (u : tX1) : va_W := [(a 0, .inr (1, [.ref (a 1), .int u.2.1, .ref (a 2), .int u.2.2.2.1, .int u.2.2.2.2.1, .int u.2.2.2.2.2])), (a 1, .inl (g.2.1, 60, .inl u.1)), (a 2, .inl (g.2.1, 6, .inl u.2.2.1))]
def cX4 (g : zG) (a : Nat → Nat) (u : tX4) : va_W := [(a 0, .inr (4, [.ref (a 1), .ref (a 2), .ref (a 5), .ref (a 6), .ref (a 7), .ref (a 8), .int u.2.2.2.2.2.2.1, .int u.2.2.2.2.2.2.2])), (a 1, .inl (g.2.1, 6, .inl u.1)), (a 2, .inr (0, [.ref (a 3), .ref (a 4)])), (a 3, .inl (g.2.1, 12, .inl u.2.1.1)), (a 4, .inl (g.2.1, 12, .inl u.2.1.2)), (a 5, .inl (g.2.1, 6, .inl u.2.2.1)), (a 6, .inl (g.2.1, 6, .inl u.2.2.2.1)), (a 7, .inl (g.2.1, 384, .inl u.2.2.2.2.1)), (a 8, .inl (g.2.1, 384, .inl u.2.2.2.2.2.1))]
def cX5h (g : zG) (a : Nat → Nat) : va_W := [(a 0, .inr (5, [.ref (a 1)]))]
def kX5 (g : zG) (a : Nat → Nat) (u : tX5) : List va_W := [cX5h g a, cX4 g (fun i => a (i + 1)) u]
def cX2h (g : zG) (a : Nat → Nat) (u : tX2) : va_W := [(a 0, .inr (2, [.ref (a 1), .int u.2.1, .int u.2.2])), (a 1, .inl (g.2.2.2.2, 6, .inr (.inr (.inr (.inr (fun j => some (a (2 + 10 * j))))))))]
def kX2 (g : zG) (a : Nat → Nat) (u : tX2) : List va_W := [cX2h g a u, cX6 g (fun i => a (i + 2)) (u.1 0), cX6 g (fun i => a (i + 12)) (u.1 1), cX6 g (fun i => a (i + 22)) (u.1 2), cX6 g (fun i => a (i + 32)) (u.1 3), cX6 g (fun i => a (i + 42)) (u.1 4), cX6 g (fun i => a (i + 52)) (u.1 5)]
def cX7h (g : zG) (a : Nat → Nat) : va_W := [(a 0, .inr (7, [.ref (a 1), .ref (a 11), .ref (a 21), .ref (a 83), .ref (a 86)]))]
def kX7 (g : zG) (a : Nat → Nat) (u : tX7) : List va_W := [cX7h g a, cX6 g (fun i => a (i + 1)) u.1, cX6 g (fun i => a (i + 11)) u.2.1, cX2h g (fun i => a (i + 21)) u.2.2.1, cX6 g (fun i => a (i + 2 + 21)) (u.2.2.1.1 0), cX6 g (fun i => a (i + 12 + 21)) (u.2.2.1.1 1), cX6 g (fun i => a (i + 22 + 21)) (u.2.2.1.1 2), cX6 g (fun i => a (i + 32 + 21)) (u.2.2.1.1 3), cX6 g (fun i => a (i + 42 + 21)) (u.2.2.1.1 4), cX6 g (fun i => a (i + 52 + 21)) (u.2.2.1.1 5), cX1 g (fun i => a (i + 83)) u.2.2.2.1, cX5h g (fun i => a (i + 86)), cX4 g (fun i => a (i + 1 + 86)) u.2.2.2.2]
def cX8 (g : zG) (a : Nat → Nat) (u : tX8) : va_W := [(a 0, .inr (8, [.int u.1, .ref (a 1), .ref (a 2), .ref (a 3), .int u.2.2.2.2.1, .ref (a 4), .int u.2.2.2.2.2.2.1, .int u.2.2.2.2.2.2.2.1, .int (b2i u.2.2.2.2.2.2.2.2.1), .ref (a 5), .int u.2.2.2.2.2.2.2.2.2.2.1, .ref (a 6), .ref (a 7), .ref (a 8), .ref (a 9), .long u.2.2.2.2.2.2.2.2.2.2.2.2.2.2.2])), (a 1, .inl (g.2.1, 142, .inl u.2.1)), (a 2, .inl (g.2.1, 142, .inl u.2.2.1)), (a 3, .inl (g.2.1, 852, .inl u.2.2.2.1)), (a 4, .inl (g.2.1, 60, .inl u.2.2.2.2.2.1)), (a 5, .inl (g.2.1, 6, .inl u.2.2.2.2.2.2.2.2.2.1)), (a 6, .inl (g.2.1, 6, .inl u.2.2.2.2.2.2.2.2.2.2.2.1)), (a 7, .inl (g.2.1, 6, .inl u.2.2.2.2.2.2.2.2.2.2.2.2.1)), (a 8, .inl (g.2.2.1, 6, .inl u.2.2.2.2.2.2.2.2.2.2.2.2.2.1)), (a 9, .inl (g.2.1, 142, .inl u.2.2.2.2.2.2.2.2.2.2.2.2.2.2.1))]
theorem zin {x : Int32} {n : Nat} (h1 : ¬ x < 0) (h2 : ¬ nI n ≤ x) (hn : n < 2 ^ 31) : vp_in x n := by
  obtain ⟨j, hj, rfl⟩ := nI_of h1
  exact vp_in_nI (Nat.not_le.mp fun h => h2 (nI_le h hj)) hn
