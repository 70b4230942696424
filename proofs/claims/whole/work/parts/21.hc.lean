/-! THE HEAP OF THE LAW, by place (gen5.py): int arrays, long arrays, arrays of references, numbers in fields, the place of the draft, all Forms (tl) -/
def HC (IA : Nat → Nat → Int32) (LA : Nat → Nat → Int64) (RA : Nat → Nat → Option Nat) (SC : Nat → Nat → Int32) (dr : Nat) (tl : Nat → va_E) : Nat → va_E := fun k => match k with
  | 0 => .inr (7, [.ref 1, .ref 20])
  | 1 => .inr (6, [.ref 2, .ref 4, .ref dr, .ref 19, .int (SC 1 4)])
  | 2 => .inr (0, [.ref 3, .int (SC 2 1)])
  | 3 => .inl (0, 64, .inl (IA 3))
  | 4 => .inr (4, [.ref 5, .ref 6, .int (SC 4 2)])
  | 5 => .inl (3, 7, .inr (.inr (.inr (.inr (RA 5)))))
  | 6 => .inr (3, [.ref 7, .ref 8])
  | 7 => .inl (4, 568, .inr (.inr (.inr (.inr (RA 7)))))
  | 8 => .inl (0, 71, .inl (IA 8))
  | 9 => .inr (1, [.int (SC 9 0), .int (SC 9 1), .int (SC 9 2), .int (SC 9 3), .int (SC 9 4)])
  | 10 => .inr (1, [.int (SC 10 0), .int (SC 10 1), .int (SC 10 2), .int (SC 10 3), .int (SC 10 4)])
  | 11 => .inr (1, [.int (SC 11 0), .int (SC 11 1), .int (SC 11 2), .int (SC 11 3), .int (SC 11 4)])
  | 12 => .inr (1, [.int (SC 12 0), .int (SC 12 1), .int (SC 12 2), .int (SC 12 3), .int (SC 12 4)])
  | 13 => .inr (1, [.int (SC 13 0), .int (SC 13 1), .int (SC 13 2), .int (SC 13 3), .int (SC 13 4)])
  | 14 => .inr (1, [.int (SC 14 0), .int (SC 14 1), .int (SC 14 2), .int (SC 14 3), .int (SC 14 4)])
  | 15 => .inr (1, [.int (SC 15 0), .int (SC 15 1), .int (SC 15 2), .int (SC 15 3), .int (SC 15 4)])
  | 16 => tl 16
  | 17 => tl 17
  | 18 => tl 18
  | 19 => .inl (0, 17, .inl (IA 19))
  | 20 => .inr (5, [.ref 21, .ref 33, .int (SC 20 2), .int (SC 20 3), .int (SC 20 4), .ref 34, .ref 35, .int (SC 20 7)])
  | 21 => .inr (4, [.ref 22, .ref 23, .int (SC 21 2)])
  | 22 => .inl (3, 7, .inr (.inr (.inr (.inr (RA 22)))))
  | 23 => .inr (3, [.ref 24, .ref 25])
  | 24 => .inl (4, 568, .inr (.inr (.inr (.inr (RA 24)))))
  | 25 => .inl (0, 71, .inl (IA 25))
  | 26 => .inr (1, [.int (SC 26 0), .int (SC 26 1), .int (SC 26 2), .int (SC 26 3), .int (SC 26 4)])
  | 27 => .inr (1, [.int (SC 27 0), .int (SC 27 1), .int (SC 27 2), .int (SC 27 3), .int (SC 27 4)])
  | 28 => .inr (1, [.int (SC 28 0), .int (SC 28 1), .int (SC 28 2), .int (SC 28 3), .int (SC 28 4)])
  | 29 => .inr (1, [.int (SC 29 0), .int (SC 29 1), .int (SC 29 2), .int (SC 29 3), .int (SC 29 4)])
  | 30 => .inr (1, [.int (SC 30 0), .int (SC 30 1), .int (SC 30 2), .int (SC 30 3), .int (SC 30 4)])
  | 31 => .inr (1, [.int (SC 31 0), .int (SC 31 1), .int (SC 31 2), .int (SC 31 3), .int (SC 31 4)])
  | 32 => .inr (1, [.int (SC 32 0), .int (SC 32 1), .int (SC 32 2), .int (SC 32 3), .int (SC 32 4)])
  | 33 => .inl (0, 64, .inl (IA 33))
  | 34 => .inl (0, 17, .inl (IA 34))
  | 35 => .inl (0, 19, .inl (IA 35))
  | 36 => .inr (8, [.ref 37, .ref 38, .int (SC 36 2), .ref 39, .ref 40, .ref 41, .ref 42, .ref 43, .ref 44, .ref 45, .ref 46, .ref 47, .ref 48, .ref 49, .ref 50, .ref 51, .int (SC 36 16), .ref 52, .int (SC 36 18), .int (SC 36 19), .int (SC 36 20), .int (SC 36 21), .int (SC 36 22), .ref 53, .ref 54])
  | 37 => .inl (0, 256, .inl (IA 37))
  | 38 => .inl (0, 2, .inl (IA 38))
  | 39 => .inl (0, 2, .inl (IA 39))
  | 40 => .inl (0, 14, .inl (IA 40))
  | 41 => .inl (0, 14, .inl (IA 41))
  | 42 => .inl (0, 14, .inl (IA 42))
  | 43 => .inl (0, 14, .inl (IA 43))
  | 44 => .inl (0, 14, .inl (IA 44))
  | 45 => .inl (0, 112, .inl (IA 45))
  | 46 => .inl (0, 128, .inl (IA 46))
  | 47 => .inl (0, 1024, .inl (IA 47))
  | 48 => .inl (1, 2400, .inr (.inl (LA 48)))
  | 49 => .inl (0, 300, .inl (IA 49))
  | 50 => .inl (0, 2, .inl (IA 50))
  | 51 => .inl (1, 8, .inr (.inl (LA 51)))
  | 52 => .inl (0, 16, .inl (IA 52))
  | 53 => .inl (0, 20, .inl (IA 53))
  | 54 => .inl (0, 20, .inl (IA 54))
  | 55 => .inl (1, 1, .inr (.inl (LA 55)))
  | k => tl k
theorem hi_3 (IA : Nat → Nat → Int32) (LA : Nat → Nat → Int64) (RA : Nat → Nat → Option Nat) (SC : Nat → Nat → Int32) (dr : Nat) (tl : Nat → va_E) (g : Nat → Int32) : va_up (HC IA LA RA SC dr tl) 3 (.inl (0, 64, .inl g)) = HC (va_up IA 3 g) LA RA SC dr tl := by
  funext j
  match j with
  | 0 => rfl
  | 1 => rfl
  | 2 => rfl
  | 3 => rfl
  | 4 => rfl
  | 5 => rfl
  | 6 => rfl
  | 7 => rfl
  | 8 => rfl
  | 9 => rfl
  | 10 => rfl
  | 11 => rfl
  | 12 => rfl
  | 13 => rfl
  | 14 => rfl
  | 15 => rfl
  | 16 => rfl
  | 17 => rfl
  | 18 => rfl
  | 19 => rfl
  | 20 => rfl
  | 21 => rfl
  | 22 => rfl
  | 23 => rfl
  | 24 => rfl
  | 25 => rfl
  | 26 => rfl
  | 27 => rfl
  | 28 => rfl
  | 29 => rfl
  | 30 => rfl
  | 31 => rfl
  | 32 => rfl
  | 33 => rfl
  | 34 => rfl
  | 35 => rfl
  | 36 => rfl
  | 37 => rfl
  | 38 => rfl
  | 39 => rfl
  | 40 => rfl
  | 41 => rfl
  | 42 => rfl
  | 43 => rfl
  | 44 => rfl
  | 45 => rfl
  | 46 => rfl
  | 47 => rfl
  | 48 => rfl
  | 49 => rfl
  | 50 => rfl
  | 51 => rfl
  | 52 => rfl
  | 53 => rfl
  | 54 => rfl
  | 55 => rfl
  | j + 56 =>
    show (if j + 56 = 3 then _ else _) = _
    rw [if_neg (by omega)]
    rfl
theorem hi_8 (IA : Nat → Nat → Int32) (LA : Nat → Nat → Int64) (RA : Nat → Nat → Option Nat) (SC : Nat → Nat → Int32) (dr : Nat) (tl : Nat → va_E) (g : Nat → Int32) : va_up (HC IA LA RA SC dr tl) 8 (.inl (0, 71, .inl g)) = HC (va_up IA 8 g) LA RA SC dr tl := by
  funext j
  match j with
  | 0 => rfl
  | 1 => rfl
  | 2 => rfl
  | 3 => rfl
  | 4 => rfl
  | 5 => rfl
  | 6 => rfl
  | 7 => rfl
  | 8 => rfl
  | 9 => rfl
  | 10 => rfl
  | 11 => rfl
  | 12 => rfl
  | 13 => rfl
  | 14 => rfl
  | 15 => rfl
  | 16 => rfl
  | 17 => rfl
  | 18 => rfl
  | 19 => rfl
  | 20 => rfl
  | 21 => rfl
  | 22 => rfl
  | 23 => rfl
  | 24 => rfl
  | 25 => rfl
  | 26 => rfl
  | 27 => rfl
  | 28 => rfl
  | 29 => rfl
  | 30 => rfl
  | 31 => rfl
  | 32 => rfl
  | 33 => rfl
  | 34 => rfl
  | 35 => rfl
  | 36 => rfl
  | 37 => rfl
  | 38 => rfl
  | 39 => rfl
  | 40 => rfl
  | 41 => rfl
  | 42 => rfl
  | 43 => rfl
  | 44 => rfl
  | 45 => rfl
  | 46 => rfl
  | 47 => rfl
  | 48 => rfl
  | 49 => rfl
  | 50 => rfl
  | 51 => rfl
  | 52 => rfl
  | 53 => rfl
  | 54 => rfl
  | 55 => rfl
  | j + 56 =>
    show (if j + 56 = 8 then _ else _) = _
    rw [if_neg (by omega)]
    rfl
theorem hi_19 (IA : Nat → Nat → Int32) (LA : Nat → Nat → Int64) (RA : Nat → Nat → Option Nat) (SC : Nat → Nat → Int32) (dr : Nat) (tl : Nat → va_E) (g : Nat → Int32) : va_up (HC IA LA RA SC dr tl) 19 (.inl (0, 17, .inl g)) = HC (va_up IA 19 g) LA RA SC dr tl := by
  funext j
  match j with
  | 0 => rfl
  | 1 => rfl
  | 2 => rfl
  | 3 => rfl
  | 4 => rfl
  | 5 => rfl
  | 6 => rfl
  | 7 => rfl
  | 8 => rfl
  | 9 => rfl
  | 10 => rfl
  | 11 => rfl
  | 12 => rfl
  | 13 => rfl
  | 14 => rfl
  | 15 => rfl
  | 16 => rfl
  | 17 => rfl
  | 18 => rfl
  | 19 => rfl
  | 20 => rfl
  | 21 => rfl
  | 22 => rfl
  | 23 => rfl
  | 24 => rfl
  | 25 => rfl
  | 26 => rfl
  | 27 => rfl
  | 28 => rfl
  | 29 => rfl
  | 30 => rfl
  | 31 => rfl
  | 32 => rfl
  | 33 => rfl
  | 34 => rfl
  | 35 => rfl
  | 36 => rfl
  | 37 => rfl
  | 38 => rfl
  | 39 => rfl
  | 40 => rfl
  | 41 => rfl
  | 42 => rfl
  | 43 => rfl
  | 44 => rfl
  | 45 => rfl
  | 46 => rfl
  | 47 => rfl
  | 48 => rfl
  | 49 => rfl
  | 50 => rfl
  | 51 => rfl
  | 52 => rfl
  | 53 => rfl
  | 54 => rfl
  | 55 => rfl
  | j + 56 =>
    show (if j + 56 = 19 then _ else _) = _
    rw [if_neg (by omega)]
    rfl
theorem hi_25 (IA : Nat → Nat → Int32) (LA : Nat → Nat → Int64) (RA : Nat → Nat → Option Nat) (SC : Nat → Nat → Int32) (dr : Nat) (tl : Nat → va_E) (g : Nat → Int32) : va_up (HC IA LA RA SC dr tl) 25 (.inl (0, 71, .inl g)) = HC (va_up IA 25 g) LA RA SC dr tl := by
  funext j
  match j with
  | 0 => rfl
  | 1 => rfl
  | 2 => rfl
  | 3 => rfl
  | 4 => rfl
  | 5 => rfl
  | 6 => rfl
  | 7 => rfl
  | 8 => rfl
  | 9 => rfl
  | 10 => rfl
  | 11 => rfl
  | 12 => rfl
  | 13 => rfl
  | 14 => rfl
  | 15 => rfl
  | 16 => rfl
  | 17 => rfl
  | 18 => rfl
  | 19 => rfl
  | 20 => rfl
  | 21 => rfl
  | 22 => rfl
  | 23 => rfl
  | 24 => rfl
  | 25 => rfl
  | 26 => rfl
  | 27 => rfl
  | 28 => rfl
  | 29 => rfl
  | 30 => rfl
  | 31 => rfl
  | 32 => rfl
  | 33 => rfl
  | 34 => rfl
  | 35 => rfl
  | 36 => rfl
  | 37 => rfl
  | 38 => rfl
  | 39 => rfl
  | 40 => rfl
  | 41 => rfl
  | 42 => rfl
  | 43 => rfl
  | 44 => rfl
  | 45 => rfl
  | 46 => rfl
  | 47 => rfl
  | 48 => rfl
  | 49 => rfl
  | 50 => rfl
  | 51 => rfl
  | 52 => rfl
  | 53 => rfl
  | 54 => rfl
  | 55 => rfl
  | j + 56 =>
    show (if j + 56 = 25 then _ else _) = _
    rw [if_neg (by omega)]
    rfl
theorem hi_33 (IA : Nat → Nat → Int32) (LA : Nat → Nat → Int64) (RA : Nat → Nat → Option Nat) (SC : Nat → Nat → Int32) (dr : Nat) (tl : Nat → va_E) (g : Nat → Int32) : va_up (HC IA LA RA SC dr tl) 33 (.inl (0, 64, .inl g)) = HC (va_up IA 33 g) LA RA SC dr tl := by
  funext j
  match j with
  | 0 => rfl
  | 1 => rfl
  | 2 => rfl
  | 3 => rfl
  | 4 => rfl
  | 5 => rfl
  | 6 => rfl
  | 7 => rfl
  | 8 => rfl
  | 9 => rfl
  | 10 => rfl
  | 11 => rfl
  | 12 => rfl
  | 13 => rfl
  | 14 => rfl
  | 15 => rfl
  | 16 => rfl
  | 17 => rfl
  | 18 => rfl
  | 19 => rfl
  | 20 => rfl
  | 21 => rfl
  | 22 => rfl
  | 23 => rfl
  | 24 => rfl
  | 25 => rfl
  | 26 => rfl
  | 27 => rfl
  | 28 => rfl
  | 29 => rfl
  | 30 => rfl
  | 31 => rfl
  | 32 => rfl
  | 33 => rfl
  | 34 => rfl
  | 35 => rfl
  | 36 => rfl
  | 37 => rfl
  | 38 => rfl
  | 39 => rfl
  | 40 => rfl
  | 41 => rfl
  | 42 => rfl
  | 43 => rfl
  | 44 => rfl
  | 45 => rfl
  | 46 => rfl
  | 47 => rfl
  | 48 => rfl
  | 49 => rfl
  | 50 => rfl
  | 51 => rfl
  | 52 => rfl
  | 53 => rfl
  | 54 => rfl
  | 55 => rfl
  | j + 56 =>
    show (if j + 56 = 33 then _ else _) = _
    rw [if_neg (by omega)]
    rfl
theorem hi_34 (IA : Nat → Nat → Int32) (LA : Nat → Nat → Int64) (RA : Nat → Nat → Option Nat) (SC : Nat → Nat → Int32) (dr : Nat) (tl : Nat → va_E) (g : Nat → Int32) : va_up (HC IA LA RA SC dr tl) 34 (.inl (0, 17, .inl g)) = HC (va_up IA 34 g) LA RA SC dr tl := by
  funext j
  match j with
  | 0 => rfl
  | 1 => rfl
  | 2 => rfl
  | 3 => rfl
  | 4 => rfl
  | 5 => rfl
  | 6 => rfl
  | 7 => rfl
  | 8 => rfl
  | 9 => rfl
  | 10 => rfl
  | 11 => rfl
  | 12 => rfl
  | 13 => rfl
  | 14 => rfl
  | 15 => rfl
  | 16 => rfl
  | 17 => rfl
  | 18 => rfl
  | 19 => rfl
  | 20 => rfl
  | 21 => rfl
  | 22 => rfl
  | 23 => rfl
  | 24 => rfl
  | 25 => rfl
  | 26 => rfl
  | 27 => rfl
  | 28 => rfl
  | 29 => rfl
  | 30 => rfl
  | 31 => rfl
  | 32 => rfl
  | 33 => rfl
  | 34 => rfl
  | 35 => rfl
  | 36 => rfl
  | 37 => rfl
  | 38 => rfl
  | 39 => rfl
  | 40 => rfl
  | 41 => rfl
  | 42 => rfl
  | 43 => rfl
  | 44 => rfl
  | 45 => rfl
  | 46 => rfl
  | 47 => rfl
  | 48 => rfl
  | 49 => rfl
  | 50 => rfl
  | 51 => rfl
  | 52 => rfl
  | 53 => rfl
  | 54 => rfl
  | 55 => rfl
  | j + 56 =>
    show (if j + 56 = 34 then _ else _) = _
    rw [if_neg (by omega)]
    rfl
theorem hi_35 (IA : Nat → Nat → Int32) (LA : Nat → Nat → Int64) (RA : Nat → Nat → Option Nat) (SC : Nat → Nat → Int32) (dr : Nat) (tl : Nat → va_E) (g : Nat → Int32) : va_up (HC IA LA RA SC dr tl) 35 (.inl (0, 19, .inl g)) = HC (va_up IA 35 g) LA RA SC dr tl := by
  funext j
  match j with
  | 0 => rfl
  | 1 => rfl
  | 2 => rfl
  | 3 => rfl
  | 4 => rfl
  | 5 => rfl
  | 6 => rfl
  | 7 => rfl
  | 8 => rfl
  | 9 => rfl
  | 10 => rfl
  | 11 => rfl
  | 12 => rfl
  | 13 => rfl
  | 14 => rfl
  | 15 => rfl
  | 16 => rfl
  | 17 => rfl
  | 18 => rfl
  | 19 => rfl
  | 20 => rfl
  | 21 => rfl
  | 22 => rfl
  | 23 => rfl
  | 24 => rfl
  | 25 => rfl
  | 26 => rfl
  | 27 => rfl
  | 28 => rfl
  | 29 => rfl
  | 30 => rfl
  | 31 => rfl
  | 32 => rfl
  | 33 => rfl
  | 34 => rfl
  | 35 => rfl
  | 36 => rfl
  | 37 => rfl
  | 38 => rfl
  | 39 => rfl
  | 40 => rfl
  | 41 => rfl
  | 42 => rfl
  | 43 => rfl
  | 44 => rfl
  | 45 => rfl
  | 46 => rfl
  | 47 => rfl
  | 48 => rfl
  | 49 => rfl
  | 50 => rfl
  | 51 => rfl
  | 52 => rfl
  | 53 => rfl
  | 54 => rfl
  | 55 => rfl
  | j + 56 =>
    show (if j + 56 = 35 then _ else _) = _
    rw [if_neg (by omega)]
    rfl
theorem hi_37 (IA : Nat → Nat → Int32) (LA : Nat → Nat → Int64) (RA : Nat → Nat → Option Nat) (SC : Nat → Nat → Int32) (dr : Nat) (tl : Nat → va_E) (g : Nat → Int32) : va_up (HC IA LA RA SC dr tl) 37 (.inl (0, 256, .inl g)) = HC (va_up IA 37 g) LA RA SC dr tl := by
  funext j
  match j with
  | 0 => rfl
  | 1 => rfl
  | 2 => rfl
  | 3 => rfl
  | 4 => rfl
  | 5 => rfl
  | 6 => rfl
  | 7 => rfl
  | 8 => rfl
  | 9 => rfl
  | 10 => rfl
  | 11 => rfl
  | 12 => rfl
  | 13 => rfl
  | 14 => rfl
  | 15 => rfl
  | 16 => rfl
  | 17 => rfl
  | 18 => rfl
  | 19 => rfl
  | 20 => rfl
  | 21 => rfl
  | 22 => rfl
  | 23 => rfl
  | 24 => rfl
  | 25 => rfl
  | 26 => rfl
  | 27 => rfl
  | 28 => rfl
  | 29 => rfl
  | 30 => rfl
  | 31 => rfl
  | 32 => rfl
  | 33 => rfl
  | 34 => rfl
  | 35 => rfl
  | 36 => rfl
  | 37 => rfl
  | 38 => rfl
  | 39 => rfl
  | 40 => rfl
  | 41 => rfl
  | 42 => rfl
  | 43 => rfl
  | 44 => rfl
  | 45 => rfl
  | 46 => rfl
  | 47 => rfl
  | 48 => rfl
  | 49 => rfl
  | 50 => rfl
  | 51 => rfl
  | 52 => rfl
  | 53 => rfl
  | 54 => rfl
  | 55 => rfl
  | j + 56 =>
    show (if j + 56 = 37 then _ else _) = _
    rw [if_neg (by omega)]
    rfl
theorem hi_38 (IA : Nat → Nat → Int32) (LA : Nat → Nat → Int64) (RA : Nat → Nat → Option Nat) (SC : Nat → Nat → Int32) (dr : Nat) (tl : Nat → va_E) (g : Nat → Int32) : va_up (HC IA LA RA SC dr tl) 38 (.inl (0, 2, .inl g)) = HC (va_up IA 38 g) LA RA SC dr tl := by
  funext j
  match j with
  | 0 => rfl
  | 1 => rfl
  | 2 => rfl
  | 3 => rfl
  | 4 => rfl
  | 5 => rfl
  | 6 => rfl
  | 7 => rfl
  | 8 => rfl
  | 9 => rfl
  | 10 => rfl
  | 11 => rfl
  | 12 => rfl
  | 13 => rfl
  | 14 => rfl
  | 15 => rfl
  | 16 => rfl
  | 17 => rfl
  | 18 => rfl
  | 19 => rfl
  | 20 => rfl
  | 21 => rfl
  | 22 => rfl
  | 23 => rfl
  | 24 => rfl
  | 25 => rfl
  | 26 => rfl
  | 27 => rfl
  | 28 => rfl
  | 29 => rfl
  | 30 => rfl
  | 31 => rfl
  | 32 => rfl
  | 33 => rfl
  | 34 => rfl
  | 35 => rfl
  | 36 => rfl
  | 37 => rfl
  | 38 => rfl
  | 39 => rfl
  | 40 => rfl
  | 41 => rfl
  | 42 => rfl
  | 43 => rfl
  | 44 => rfl
  | 45 => rfl
  | 46 => rfl
  | 47 => rfl
  | 48 => rfl
  | 49 => rfl
  | 50 => rfl
  | 51 => rfl
  | 52 => rfl
  | 53 => rfl
  | 54 => rfl
  | 55 => rfl
  | j + 56 =>
    show (if j + 56 = 38 then _ else _) = _
    rw [if_neg (by omega)]
    rfl
theorem hi_39 (IA : Nat → Nat → Int32) (LA : Nat → Nat → Int64) (RA : Nat → Nat → Option Nat) (SC : Nat → Nat → Int32) (dr : Nat) (tl : Nat → va_E) (g : Nat → Int32) : va_up (HC IA LA RA SC dr tl) 39 (.inl (0, 2, .inl g)) = HC (va_up IA 39 g) LA RA SC dr tl := by
  funext j
  match j with
  | 0 => rfl
  | 1 => rfl
  | 2 => rfl
  | 3 => rfl
  | 4 => rfl
  | 5 => rfl
  | 6 => rfl
  | 7 => rfl
  | 8 => rfl
  | 9 => rfl
  | 10 => rfl
  | 11 => rfl
  | 12 => rfl
  | 13 => rfl
  | 14 => rfl
  | 15 => rfl
  | 16 => rfl
  | 17 => rfl
  | 18 => rfl
  | 19 => rfl
  | 20 => rfl
  | 21 => rfl
  | 22 => rfl
  | 23 => rfl
  | 24 => rfl
  | 25 => rfl
  | 26 => rfl
  | 27 => rfl
  | 28 => rfl
  | 29 => rfl
  | 30 => rfl
  | 31 => rfl
  | 32 => rfl
  | 33 => rfl
  | 34 => rfl
  | 35 => rfl
  | 36 => rfl
  | 37 => rfl
  | 38 => rfl
  | 39 => rfl
  | 40 => rfl
  | 41 => rfl
  | 42 => rfl
  | 43 => rfl
  | 44 => rfl
  | 45 => rfl
  | 46 => rfl
  | 47 => rfl
  | 48 => rfl
  | 49 => rfl
  | 50 => rfl
  | 51 => rfl
  | 52 => rfl
  | 53 => rfl
  | 54 => rfl
  | 55 => rfl
  | j + 56 =>
    show (if j + 56 = 39 then _ else _) = _
    rw [if_neg (by omega)]
    rfl
theorem hi_40 (IA : Nat → Nat → Int32) (LA : Nat → Nat → Int64) (RA : Nat → Nat → Option Nat) (SC : Nat → Nat → Int32) (dr : Nat) (tl : Nat → va_E) (g : Nat → Int32) : va_up (HC IA LA RA SC dr tl) 40 (.inl (0, 14, .inl g)) = HC (va_up IA 40 g) LA RA SC dr tl := by
  funext j
  match j with
  | 0 => rfl
  | 1 => rfl
  | 2 => rfl
  | 3 => rfl
  | 4 => rfl
  | 5 => rfl
  | 6 => rfl
  | 7 => rfl
  | 8 => rfl
  | 9 => rfl
  | 10 => rfl
  | 11 => rfl
  | 12 => rfl
  | 13 => rfl
  | 14 => rfl
  | 15 => rfl
  | 16 => rfl
  | 17 => rfl
  | 18 => rfl
  | 19 => rfl
  | 20 => rfl
  | 21 => rfl
  | 22 => rfl
  | 23 => rfl
  | 24 => rfl
  | 25 => rfl
  | 26 => rfl
  | 27 => rfl
  | 28 => rfl
  | 29 => rfl
  | 30 => rfl
  | 31 => rfl
  | 32 => rfl
  | 33 => rfl
  | 34 => rfl
  | 35 => rfl
  | 36 => rfl
  | 37 => rfl
  | 38 => rfl
  | 39 => rfl
  | 40 => rfl
  | 41 => rfl
  | 42 => rfl
  | 43 => rfl
  | 44 => rfl
  | 45 => rfl
  | 46 => rfl
  | 47 => rfl
  | 48 => rfl
  | 49 => rfl
  | 50 => rfl
  | 51 => rfl
  | 52 => rfl
  | 53 => rfl
  | 54 => rfl
  | 55 => rfl
  | j + 56 =>
    show (if j + 56 = 40 then _ else _) = _
    rw [if_neg (by omega)]
    rfl
theorem hi_41 (IA : Nat → Nat → Int32) (LA : Nat → Nat → Int64) (RA : Nat → Nat → Option Nat) (SC : Nat → Nat → Int32) (dr : Nat) (tl : Nat → va_E) (g : Nat → Int32) : va_up (HC IA LA RA SC dr tl) 41 (.inl (0, 14, .inl g)) = HC (va_up IA 41 g) LA RA SC dr tl := by
  funext j
  match j with
  | 0 => rfl
  | 1 => rfl
  | 2 => rfl
  | 3 => rfl
  | 4 => rfl
  | 5 => rfl
  | 6 => rfl
  | 7 => rfl
  | 8 => rfl
  | 9 => rfl
  | 10 => rfl
  | 11 => rfl
  | 12 => rfl
  | 13 => rfl
  | 14 => rfl
  | 15 => rfl
  | 16 => rfl
  | 17 => rfl
  | 18 => rfl
  | 19 => rfl
  | 20 => rfl
  | 21 => rfl
  | 22 => rfl
  | 23 => rfl
  | 24 => rfl
  | 25 => rfl
  | 26 => rfl
  | 27 => rfl
  | 28 => rfl
  | 29 => rfl
  | 30 => rfl
  | 31 => rfl
  | 32 => rfl
  | 33 => rfl
  | 34 => rfl
  | 35 => rfl
  | 36 => rfl
  | 37 => rfl
  | 38 => rfl
  | 39 => rfl
  | 40 => rfl
  | 41 => rfl
  | 42 => rfl
  | 43 => rfl
  | 44 => rfl
  | 45 => rfl
  | 46 => rfl
  | 47 => rfl
  | 48 => rfl
  | 49 => rfl
  | 50 => rfl
  | 51 => rfl
  | 52 => rfl
  | 53 => rfl
  | 54 => rfl
  | 55 => rfl
  | j + 56 =>
    show (if j + 56 = 41 then _ else _) = _
    rw [if_neg (by omega)]
    rfl
theorem hi_42 (IA : Nat → Nat → Int32) (LA : Nat → Nat → Int64) (RA : Nat → Nat → Option Nat) (SC : Nat → Nat → Int32) (dr : Nat) (tl : Nat → va_E) (g : Nat → Int32) : va_up (HC IA LA RA SC dr tl) 42 (.inl (0, 14, .inl g)) = HC (va_up IA 42 g) LA RA SC dr tl := by
  funext j
  match j with
  | 0 => rfl
  | 1 => rfl
  | 2 => rfl
  | 3 => rfl
  | 4 => rfl
  | 5 => rfl
  | 6 => rfl
  | 7 => rfl
  | 8 => rfl
  | 9 => rfl
  | 10 => rfl
  | 11 => rfl
  | 12 => rfl
  | 13 => rfl
  | 14 => rfl
  | 15 => rfl
  | 16 => rfl
  | 17 => rfl
  | 18 => rfl
  | 19 => rfl
  | 20 => rfl
  | 21 => rfl
  | 22 => rfl
  | 23 => rfl
  | 24 => rfl
  | 25 => rfl
  | 26 => rfl
  | 27 => rfl
  | 28 => rfl
  | 29 => rfl
  | 30 => rfl
  | 31 => rfl
  | 32 => rfl
  | 33 => rfl
  | 34 => rfl
  | 35 => rfl
  | 36 => rfl
  | 37 => rfl
  | 38 => rfl
  | 39 => rfl
  | 40 => rfl
  | 41 => rfl
  | 42 => rfl
  | 43 => rfl
  | 44 => rfl
  | 45 => rfl
  | 46 => rfl
  | 47 => rfl
  | 48 => rfl
  | 49 => rfl
  | 50 => rfl
  | 51 => rfl
  | 52 => rfl
  | 53 => rfl
  | 54 => rfl
  | 55 => rfl
  | j + 56 =>
    show (if j + 56 = 42 then _ else _) = _
    rw [if_neg (by omega)]
    rfl
theorem hi_43 (IA : Nat → Nat → Int32) (LA : Nat → Nat → Int64) (RA : Nat → Nat → Option Nat) (SC : Nat → Nat → Int32) (dr : Nat) (tl : Nat → va_E) (g : Nat → Int32) : va_up (HC IA LA RA SC dr tl) 43 (.inl (0, 14, .inl g)) = HC (va_up IA 43 g) LA RA SC dr tl := by
  funext j
  match j with
  | 0 => rfl
  | 1 => rfl
  | 2 => rfl
  | 3 => rfl
  | 4 => rfl
  | 5 => rfl
  | 6 => rfl
  | 7 => rfl
  | 8 => rfl
  | 9 => rfl
  | 10 => rfl
  | 11 => rfl
  | 12 => rfl
  | 13 => rfl
  | 14 => rfl
  | 15 => rfl
  | 16 => rfl
  | 17 => rfl
  | 18 => rfl
  | 19 => rfl
  | 20 => rfl
  | 21 => rfl
  | 22 => rfl
  | 23 => rfl
  | 24 => rfl
  | 25 => rfl
  | 26 => rfl
  | 27 => rfl
  | 28 => rfl
  | 29 => rfl
  | 30 => rfl
  | 31 => rfl
  | 32 => rfl
  | 33 => rfl
  | 34 => rfl
  | 35 => rfl
  | 36 => rfl
  | 37 => rfl
  | 38 => rfl
  | 39 => rfl
  | 40 => rfl
  | 41 => rfl
  | 42 => rfl
  | 43 => rfl
  | 44 => rfl
  | 45 => rfl
  | 46 => rfl
  | 47 => rfl
  | 48 => rfl
  | 49 => rfl
  | 50 => rfl
  | 51 => rfl
  | 52 => rfl
  | 53 => rfl
  | 54 => rfl
  | 55 => rfl
  | j + 56 =>
    show (if j + 56 = 43 then _ else _) = _
    rw [if_neg (by omega)]
    rfl
theorem hi_44 (IA : Nat → Nat → Int32) (LA : Nat → Nat → Int64) (RA : Nat → Nat → Option Nat) (SC : Nat → Nat → Int32) (dr : Nat) (tl : Nat → va_E) (g : Nat → Int32) : va_up (HC IA LA RA SC dr tl) 44 (.inl (0, 14, .inl g)) = HC (va_up IA 44 g) LA RA SC dr tl := by
  funext j
  match j with
  | 0 => rfl
  | 1 => rfl
  | 2 => rfl
  | 3 => rfl
  | 4 => rfl
  | 5 => rfl
  | 6 => rfl
  | 7 => rfl
  | 8 => rfl
  | 9 => rfl
  | 10 => rfl
  | 11 => rfl
  | 12 => rfl
  | 13 => rfl
  | 14 => rfl
  | 15 => rfl
  | 16 => rfl
  | 17 => rfl
  | 18 => rfl
  | 19 => rfl
  | 20 => rfl
  | 21 => rfl
  | 22 => rfl
  | 23 => rfl
  | 24 => rfl
  | 25 => rfl
  | 26 => rfl
  | 27 => rfl
  | 28 => rfl
  | 29 => rfl
  | 30 => rfl
  | 31 => rfl
  | 32 => rfl
  | 33 => rfl
  | 34 => rfl
  | 35 => rfl
  | 36 => rfl
  | 37 => rfl
  | 38 => rfl
  | 39 => rfl
  | 40 => rfl
  | 41 => rfl
  | 42 => rfl
  | 43 => rfl
  | 44 => rfl
  | 45 => rfl
  | 46 => rfl
  | 47 => rfl
  | 48 => rfl
  | 49 => rfl
  | 50 => rfl
  | 51 => rfl
  | 52 => rfl
  | 53 => rfl
  | 54 => rfl
  | 55 => rfl
  | j + 56 =>
    show (if j + 56 = 44 then _ else _) = _
    rw [if_neg (by omega)]
    rfl
theorem hi_45 (IA : Nat → Nat → Int32) (LA : Nat → Nat → Int64) (RA : Nat → Nat → Option Nat) (SC : Nat → Nat → Int32) (dr : Nat) (tl : Nat → va_E) (g : Nat → Int32) : va_up (HC IA LA RA SC dr tl) 45 (.inl (0, 112, .inl g)) = HC (va_up IA 45 g) LA RA SC dr tl := by
  funext j
  match j with
  | 0 => rfl
  | 1 => rfl
  | 2 => rfl
  | 3 => rfl
  | 4 => rfl
  | 5 => rfl
  | 6 => rfl
  | 7 => rfl
  | 8 => rfl
  | 9 => rfl
  | 10 => rfl
  | 11 => rfl
  | 12 => rfl
  | 13 => rfl
  | 14 => rfl
  | 15 => rfl
  | 16 => rfl
  | 17 => rfl
  | 18 => rfl
  | 19 => rfl
  | 20 => rfl
  | 21 => rfl
  | 22 => rfl
  | 23 => rfl
  | 24 => rfl
  | 25 => rfl
  | 26 => rfl
  | 27 => rfl
  | 28 => rfl
  | 29 => rfl
  | 30 => rfl
  | 31 => rfl
  | 32 => rfl
  | 33 => rfl
  | 34 => rfl
  | 35 => rfl
  | 36 => rfl
  | 37 => rfl
  | 38 => rfl
  | 39 => rfl
  | 40 => rfl
  | 41 => rfl
  | 42 => rfl
  | 43 => rfl
  | 44 => rfl
  | 45 => rfl
  | 46 => rfl
  | 47 => rfl
  | 48 => rfl
  | 49 => rfl
  | 50 => rfl
  | 51 => rfl
  | 52 => rfl
  | 53 => rfl
  | 54 => rfl
  | 55 => rfl
  | j + 56 =>
    show (if j + 56 = 45 then _ else _) = _
    rw [if_neg (by omega)]
    rfl
theorem hi_46 (IA : Nat → Nat → Int32) (LA : Nat → Nat → Int64) (RA : Nat → Nat → Option Nat) (SC : Nat → Nat → Int32) (dr : Nat) (tl : Nat → va_E) (g : Nat → Int32) : va_up (HC IA LA RA SC dr tl) 46 (.inl (0, 128, .inl g)) = HC (va_up IA 46 g) LA RA SC dr tl := by
  funext j
  match j with
  | 0 => rfl
  | 1 => rfl
  | 2 => rfl
  | 3 => rfl
  | 4 => rfl
  | 5 => rfl
  | 6 => rfl
  | 7 => rfl
  | 8 => rfl
  | 9 => rfl
  | 10 => rfl
  | 11 => rfl
  | 12 => rfl
  | 13 => rfl
  | 14 => rfl
  | 15 => rfl
  | 16 => rfl
  | 17 => rfl
  | 18 => rfl
  | 19 => rfl
  | 20 => rfl
  | 21 => rfl
  | 22 => rfl
  | 23 => rfl
  | 24 => rfl
  | 25 => rfl
  | 26 => rfl
  | 27 => rfl
  | 28 => rfl
  | 29 => rfl
  | 30 => rfl
  | 31 => rfl
  | 32 => rfl
  | 33 => rfl
  | 34 => rfl
  | 35 => rfl
  | 36 => rfl
  | 37 => rfl
  | 38 => rfl
  | 39 => rfl
  | 40 => rfl
  | 41 => rfl
  | 42 => rfl
  | 43 => rfl
  | 44 => rfl
  | 45 => rfl
  | 46 => rfl
  | 47 => rfl
  | 48 => rfl
  | 49 => rfl
  | 50 => rfl
  | 51 => rfl
  | 52 => rfl
  | 53 => rfl
  | 54 => rfl
  | 55 => rfl
  | j + 56 =>
    show (if j + 56 = 46 then _ else _) = _
    rw [if_neg (by omega)]
    rfl
theorem hi_47 (IA : Nat → Nat → Int32) (LA : Nat → Nat → Int64) (RA : Nat → Nat → Option Nat) (SC : Nat → Nat → Int32) (dr : Nat) (tl : Nat → va_E) (g : Nat → Int32) : va_up (HC IA LA RA SC dr tl) 47 (.inl (0, 1024, .inl g)) = HC (va_up IA 47 g) LA RA SC dr tl := by
  funext j
  match j with
  | 0 => rfl
  | 1 => rfl
  | 2 => rfl
  | 3 => rfl
  | 4 => rfl
  | 5 => rfl
  | 6 => rfl
  | 7 => rfl
  | 8 => rfl
  | 9 => rfl
  | 10 => rfl
  | 11 => rfl
  | 12 => rfl
  | 13 => rfl
  | 14 => rfl
  | 15 => rfl
  | 16 => rfl
  | 17 => rfl
  | 18 => rfl
  | 19 => rfl
  | 20 => rfl
  | 21 => rfl
  | 22 => rfl
  | 23 => rfl
  | 24 => rfl
  | 25 => rfl
  | 26 => rfl
  | 27 => rfl
  | 28 => rfl
  | 29 => rfl
  | 30 => rfl
  | 31 => rfl
  | 32 => rfl
  | 33 => rfl
  | 34 => rfl
  | 35 => rfl
  | 36 => rfl
  | 37 => rfl
  | 38 => rfl
  | 39 => rfl
  | 40 => rfl
  | 41 => rfl
  | 42 => rfl
  | 43 => rfl
  | 44 => rfl
  | 45 => rfl
  | 46 => rfl
  | 47 => rfl
  | 48 => rfl
  | 49 => rfl
  | 50 => rfl
  | 51 => rfl
  | 52 => rfl
  | 53 => rfl
  | 54 => rfl
  | 55 => rfl
  | j + 56 =>
    show (if j + 56 = 47 then _ else _) = _
    rw [if_neg (by omega)]
    rfl
theorem hi_49 (IA : Nat → Nat → Int32) (LA : Nat → Nat → Int64) (RA : Nat → Nat → Option Nat) (SC : Nat → Nat → Int32) (dr : Nat) (tl : Nat → va_E) (g : Nat → Int32) : va_up (HC IA LA RA SC dr tl) 49 (.inl (0, 300, .inl g)) = HC (va_up IA 49 g) LA RA SC dr tl := by
  funext j
  match j with
  | 0 => rfl
  | 1 => rfl
  | 2 => rfl
  | 3 => rfl
  | 4 => rfl
  | 5 => rfl
  | 6 => rfl
  | 7 => rfl
  | 8 => rfl
  | 9 => rfl
  | 10 => rfl
  | 11 => rfl
  | 12 => rfl
  | 13 => rfl
  | 14 => rfl
  | 15 => rfl
  | 16 => rfl
  | 17 => rfl
  | 18 => rfl
  | 19 => rfl
  | 20 => rfl
  | 21 => rfl
  | 22 => rfl
  | 23 => rfl
  | 24 => rfl
  | 25 => rfl
  | 26 => rfl
  | 27 => rfl
  | 28 => rfl
  | 29 => rfl
  | 30 => rfl
  | 31 => rfl
  | 32 => rfl
  | 33 => rfl
  | 34 => rfl
  | 35 => rfl
  | 36 => rfl
  | 37 => rfl
  | 38 => rfl
  | 39 => rfl
  | 40 => rfl
  | 41 => rfl
  | 42 => rfl
  | 43 => rfl
  | 44 => rfl
  | 45 => rfl
  | 46 => rfl
  | 47 => rfl
  | 48 => rfl
  | 49 => rfl
  | 50 => rfl
  | 51 => rfl
  | 52 => rfl
  | 53 => rfl
  | 54 => rfl
  | 55 => rfl
  | j + 56 =>
    show (if j + 56 = 49 then _ else _) = _
    rw [if_neg (by omega)]
    rfl
theorem hi_50 (IA : Nat → Nat → Int32) (LA : Nat → Nat → Int64) (RA : Nat → Nat → Option Nat) (SC : Nat → Nat → Int32) (dr : Nat) (tl : Nat → va_E) (g : Nat → Int32) : va_up (HC IA LA RA SC dr tl) 50 (.inl (0, 2, .inl g)) = HC (va_up IA 50 g) LA RA SC dr tl := by
  funext j
  match j with
  | 0 => rfl
  | 1 => rfl
  | 2 => rfl
  | 3 => rfl
  | 4 => rfl
  | 5 => rfl
  | 6 => rfl
  | 7 => rfl
  | 8 => rfl
  | 9 => rfl
  | 10 => rfl
  | 11 => rfl
  | 12 => rfl
  | 13 => rfl
  | 14 => rfl
  | 15 => rfl
  | 16 => rfl
  | 17 => rfl
  | 18 => rfl
  | 19 => rfl
  | 20 => rfl
  | 21 => rfl
  | 22 => rfl
  | 23 => rfl
  | 24 => rfl
  | 25 => rfl
  | 26 => rfl
  | 27 => rfl
  | 28 => rfl
  | 29 => rfl
  | 30 => rfl
  | 31 => rfl
  | 32 => rfl
  | 33 => rfl
  | 34 => rfl
  | 35 => rfl
  | 36 => rfl
  | 37 => rfl
  | 38 => rfl
  | 39 => rfl
  | 40 => rfl
  | 41 => rfl
  | 42 => rfl
  | 43 => rfl
  | 44 => rfl
  | 45 => rfl
  | 46 => rfl
  | 47 => rfl
  | 48 => rfl
  | 49 => rfl
  | 50 => rfl
  | 51 => rfl
  | 52 => rfl
  | 53 => rfl
  | 54 => rfl
  | 55 => rfl
  | j + 56 =>
    show (if j + 56 = 50 then _ else _) = _
    rw [if_neg (by omega)]
    rfl
theorem hi_52 (IA : Nat → Nat → Int32) (LA : Nat → Nat → Int64) (RA : Nat → Nat → Option Nat) (SC : Nat → Nat → Int32) (dr : Nat) (tl : Nat → va_E) (g : Nat → Int32) : va_up (HC IA LA RA SC dr tl) 52 (.inl (0, 16, .inl g)) = HC (va_up IA 52 g) LA RA SC dr tl := by
  funext j
  match j with
  | 0 => rfl
  | 1 => rfl
  | 2 => rfl
  | 3 => rfl
  | 4 => rfl
  | 5 => rfl
  | 6 => rfl
  | 7 => rfl
  | 8 => rfl
  | 9 => rfl
  | 10 => rfl
  | 11 => rfl
  | 12 => rfl
  | 13 => rfl
  | 14 => rfl
  | 15 => rfl
  | 16 => rfl
  | 17 => rfl
  | 18 => rfl
  | 19 => rfl
  | 20 => rfl
  | 21 => rfl
  | 22 => rfl
  | 23 => rfl
  | 24 => rfl
  | 25 => rfl
  | 26 => rfl
  | 27 => rfl
  | 28 => rfl
  | 29 => rfl
  | 30 => rfl
  | 31 => rfl
  | 32 => rfl
  | 33 => rfl
  | 34 => rfl
  | 35 => rfl
  | 36 => rfl
  | 37 => rfl
  | 38 => rfl
  | 39 => rfl
  | 40 => rfl
  | 41 => rfl
  | 42 => rfl
  | 43 => rfl
  | 44 => rfl
  | 45 => rfl
  | 46 => rfl
  | 47 => rfl
  | 48 => rfl
  | 49 => rfl
  | 50 => rfl
  | 51 => rfl
  | 52 => rfl
  | 53 => rfl
  | 54 => rfl
  | 55 => rfl
  | j + 56 =>
    show (if j + 56 = 52 then _ else _) = _
    rw [if_neg (by omega)]
    rfl
theorem hi_53 (IA : Nat → Nat → Int32) (LA : Nat → Nat → Int64) (RA : Nat → Nat → Option Nat) (SC : Nat → Nat → Int32) (dr : Nat) (tl : Nat → va_E) (g : Nat → Int32) : va_up (HC IA LA RA SC dr tl) 53 (.inl (0, 20, .inl g)) = HC (va_up IA 53 g) LA RA SC dr tl := by
  funext j
  match j with
  | 0 => rfl
  | 1 => rfl
  | 2 => rfl
  | 3 => rfl
  | 4 => rfl
  | 5 => rfl
  | 6 => rfl
  | 7 => rfl
  | 8 => rfl
  | 9 => rfl
  | 10 => rfl
  | 11 => rfl
  | 12 => rfl
  | 13 => rfl
  | 14 => rfl
  | 15 => rfl
  | 16 => rfl
  | 17 => rfl
  | 18 => rfl
  | 19 => rfl
  | 20 => rfl
  | 21 => rfl
  | 22 => rfl
  | 23 => rfl
  | 24 => rfl
  | 25 => rfl
  | 26 => rfl
  | 27 => rfl
  | 28 => rfl
  | 29 => rfl
  | 30 => rfl
  | 31 => rfl
  | 32 => rfl
  | 33 => rfl
  | 34 => rfl
  | 35 => rfl
  | 36 => rfl
  | 37 => rfl
  | 38 => rfl
  | 39 => rfl
  | 40 => rfl
  | 41 => rfl
  | 42 => rfl
  | 43 => rfl
  | 44 => rfl
  | 45 => rfl
  | 46 => rfl
  | 47 => rfl
  | 48 => rfl
  | 49 => rfl
  | 50 => rfl
  | 51 => rfl
  | 52 => rfl
  | 53 => rfl
  | 54 => rfl
  | 55 => rfl
  | j + 56 =>
    show (if j + 56 = 53 then _ else _) = _
    rw [if_neg (by omega)]
    rfl
theorem hi_54 (IA : Nat → Nat → Int32) (LA : Nat → Nat → Int64) (RA : Nat → Nat → Option Nat) (SC : Nat → Nat → Int32) (dr : Nat) (tl : Nat → va_E) (g : Nat → Int32) : va_up (HC IA LA RA SC dr tl) 54 (.inl (0, 20, .inl g)) = HC (va_up IA 54 g) LA RA SC dr tl := by
  funext j
  match j with
  | 0 => rfl
  | 1 => rfl
  | 2 => rfl
  | 3 => rfl
  | 4 => rfl
  | 5 => rfl
  | 6 => rfl
  | 7 => rfl
  | 8 => rfl
  | 9 => rfl
  | 10 => rfl
  | 11 => rfl
  | 12 => rfl
  | 13 => rfl
  | 14 => rfl
  | 15 => rfl
  | 16 => rfl
  | 17 => rfl
  | 18 => rfl
  | 19 => rfl
  | 20 => rfl
  | 21 => rfl
  | 22 => rfl
  | 23 => rfl
  | 24 => rfl
  | 25 => rfl
  | 26 => rfl
  | 27 => rfl
  | 28 => rfl
  | 29 => rfl
  | 30 => rfl
  | 31 => rfl
  | 32 => rfl
  | 33 => rfl
  | 34 => rfl
  | 35 => rfl
  | 36 => rfl
  | 37 => rfl
  | 38 => rfl
  | 39 => rfl
  | 40 => rfl
  | 41 => rfl
  | 42 => rfl
  | 43 => rfl
  | 44 => rfl
  | 45 => rfl
  | 46 => rfl
  | 47 => rfl
  | 48 => rfl
  | 49 => rfl
  | 50 => rfl
  | 51 => rfl
  | 52 => rfl
  | 53 => rfl
  | 54 => rfl
  | 55 => rfl
  | j + 56 =>
    show (if j + 56 = 54 then _ else _) = _
    rw [if_neg (by omega)]
    rfl
theorem hl_48 (IA : Nat → Nat → Int32) (LA : Nat → Nat → Int64) (RA : Nat → Nat → Option Nat) (SC : Nat → Nat → Int32) (dr : Nat) (tl : Nat → va_E) (g : Nat → Int64) : va_up (HC IA LA RA SC dr tl) 48 (.inl (1, 2400, .inr (.inl g))) = HC IA (va_up LA 48 g) RA SC dr tl := by
  funext j
  match j with
  | 0 => rfl
  | 1 => rfl
  | 2 => rfl
  | 3 => rfl
  | 4 => rfl
  | 5 => rfl
  | 6 => rfl
  | 7 => rfl
  | 8 => rfl
  | 9 => rfl
  | 10 => rfl
  | 11 => rfl
  | 12 => rfl
  | 13 => rfl
  | 14 => rfl
  | 15 => rfl
  | 16 => rfl
  | 17 => rfl
  | 18 => rfl
  | 19 => rfl
  | 20 => rfl
  | 21 => rfl
  | 22 => rfl
  | 23 => rfl
  | 24 => rfl
  | 25 => rfl
  | 26 => rfl
  | 27 => rfl
  | 28 => rfl
  | 29 => rfl
  | 30 => rfl
  | 31 => rfl
  | 32 => rfl
  | 33 => rfl
  | 34 => rfl
  | 35 => rfl
  | 36 => rfl
  | 37 => rfl
  | 38 => rfl
  | 39 => rfl
  | 40 => rfl
  | 41 => rfl
  | 42 => rfl
  | 43 => rfl
  | 44 => rfl
  | 45 => rfl
  | 46 => rfl
  | 47 => rfl
  | 48 => rfl
  | 49 => rfl
  | 50 => rfl
  | 51 => rfl
  | 52 => rfl
  | 53 => rfl
  | 54 => rfl
  | 55 => rfl
  | j + 56 =>
    show (if j + 56 = 48 then _ else _) = _
    rw [if_neg (by omega)]
    rfl
theorem hl_51 (IA : Nat → Nat → Int32) (LA : Nat → Nat → Int64) (RA : Nat → Nat → Option Nat) (SC : Nat → Nat → Int32) (dr : Nat) (tl : Nat → va_E) (g : Nat → Int64) : va_up (HC IA LA RA SC dr tl) 51 (.inl (1, 8, .inr (.inl g))) = HC IA (va_up LA 51 g) RA SC dr tl := by
  funext j
  match j with
  | 0 => rfl
  | 1 => rfl
  | 2 => rfl
  | 3 => rfl
  | 4 => rfl
  | 5 => rfl
  | 6 => rfl
  | 7 => rfl
  | 8 => rfl
  | 9 => rfl
  | 10 => rfl
  | 11 => rfl
  | 12 => rfl
  | 13 => rfl
  | 14 => rfl
  | 15 => rfl
  | 16 => rfl
  | 17 => rfl
  | 18 => rfl
  | 19 => rfl
  | 20 => rfl
  | 21 => rfl
  | 22 => rfl
  | 23 => rfl
  | 24 => rfl
  | 25 => rfl
  | 26 => rfl
  | 27 => rfl
  | 28 => rfl
  | 29 => rfl
  | 30 => rfl
  | 31 => rfl
  | 32 => rfl
  | 33 => rfl
  | 34 => rfl
  | 35 => rfl
  | 36 => rfl
  | 37 => rfl
  | 38 => rfl
  | 39 => rfl
  | 40 => rfl
  | 41 => rfl
  | 42 => rfl
  | 43 => rfl
  | 44 => rfl
  | 45 => rfl
  | 46 => rfl
  | 47 => rfl
  | 48 => rfl
  | 49 => rfl
  | 50 => rfl
  | 51 => rfl
  | 52 => rfl
  | 53 => rfl
  | 54 => rfl
  | 55 => rfl
  | j + 56 =>
    show (if j + 56 = 51 then _ else _) = _
    rw [if_neg (by omega)]
    rfl
theorem hl_55 (IA : Nat → Nat → Int32) (LA : Nat → Nat → Int64) (RA : Nat → Nat → Option Nat) (SC : Nat → Nat → Int32) (dr : Nat) (tl : Nat → va_E) (g : Nat → Int64) : va_up (HC IA LA RA SC dr tl) 55 (.inl (1, 1, .inr (.inl g))) = HC IA (va_up LA 55 g) RA SC dr tl := by
  funext j
  match j with
  | 0 => rfl
  | 1 => rfl
  | 2 => rfl
  | 3 => rfl
  | 4 => rfl
  | 5 => rfl
  | 6 => rfl
  | 7 => rfl
  | 8 => rfl
  | 9 => rfl
  | 10 => rfl
  | 11 => rfl
  | 12 => rfl
  | 13 => rfl
  | 14 => rfl
  | 15 => rfl
  | 16 => rfl
  | 17 => rfl
  | 18 => rfl
  | 19 => rfl
  | 20 => rfl
  | 21 => rfl
  | 22 => rfl
  | 23 => rfl
  | 24 => rfl
  | 25 => rfl
  | 26 => rfl
  | 27 => rfl
  | 28 => rfl
  | 29 => rfl
  | 30 => rfl
  | 31 => rfl
  | 32 => rfl
  | 33 => rfl
  | 34 => rfl
  | 35 => rfl
  | 36 => rfl
  | 37 => rfl
  | 38 => rfl
  | 39 => rfl
  | 40 => rfl
  | 41 => rfl
  | 42 => rfl
  | 43 => rfl
  | 44 => rfl
  | 45 => rfl
  | 46 => rfl
  | 47 => rfl
  | 48 => rfl
  | 49 => rfl
  | 50 => rfl
  | 51 => rfl
  | 52 => rfl
  | 53 => rfl
  | 54 => rfl
  | 55 => rfl
  | j + 56 =>
    show (if j + 56 = 55 then _ else _) = _
    rw [if_neg (by omega)]
    rfl
theorem hr_5 (IA : Nat → Nat → Int32) (LA : Nat → Nat → Int64) (RA : Nat → Nat → Option Nat) (SC : Nat → Nat → Int32) (dr : Nat) (tl : Nat → va_E) (g : Nat → Option Nat) : va_up (HC IA LA RA SC dr tl) 5 (.inl (3, 7, .inr (.inr (.inr (.inr g))))) = HC IA LA (va_up RA 5 g) SC dr tl := by
  funext j
  match j with
  | 0 => rfl
  | 1 => rfl
  | 2 => rfl
  | 3 => rfl
  | 4 => rfl
  | 5 => rfl
  | 6 => rfl
  | 7 => rfl
  | 8 => rfl
  | 9 => rfl
  | 10 => rfl
  | 11 => rfl
  | 12 => rfl
  | 13 => rfl
  | 14 => rfl
  | 15 => rfl
  | 16 => rfl
  | 17 => rfl
  | 18 => rfl
  | 19 => rfl
  | 20 => rfl
  | 21 => rfl
  | 22 => rfl
  | 23 => rfl
  | 24 => rfl
  | 25 => rfl
  | 26 => rfl
  | 27 => rfl
  | 28 => rfl
  | 29 => rfl
  | 30 => rfl
  | 31 => rfl
  | 32 => rfl
  | 33 => rfl
  | 34 => rfl
  | 35 => rfl
  | 36 => rfl
  | 37 => rfl
  | 38 => rfl
  | 39 => rfl
  | 40 => rfl
  | 41 => rfl
  | 42 => rfl
  | 43 => rfl
  | 44 => rfl
  | 45 => rfl
  | 46 => rfl
  | 47 => rfl
  | 48 => rfl
  | 49 => rfl
  | 50 => rfl
  | 51 => rfl
  | 52 => rfl
  | 53 => rfl
  | 54 => rfl
  | 55 => rfl
  | j + 56 =>
    show (if j + 56 = 5 then _ else _) = _
    rw [if_neg (by omega)]
    rfl
theorem hr_7 (IA : Nat → Nat → Int32) (LA : Nat → Nat → Int64) (RA : Nat → Nat → Option Nat) (SC : Nat → Nat → Int32) (dr : Nat) (tl : Nat → va_E) (g : Nat → Option Nat) : va_up (HC IA LA RA SC dr tl) 7 (.inl (4, 568, .inr (.inr (.inr (.inr g))))) = HC IA LA (va_up RA 7 g) SC dr tl := by
  funext j
  match j with
  | 0 => rfl
  | 1 => rfl
  | 2 => rfl
  | 3 => rfl
  | 4 => rfl
  | 5 => rfl
  | 6 => rfl
  | 7 => rfl
  | 8 => rfl
  | 9 => rfl
  | 10 => rfl
  | 11 => rfl
  | 12 => rfl
  | 13 => rfl
  | 14 => rfl
  | 15 => rfl
  | 16 => rfl
  | 17 => rfl
  | 18 => rfl
  | 19 => rfl
  | 20 => rfl
  | 21 => rfl
  | 22 => rfl
  | 23 => rfl
  | 24 => rfl
  | 25 => rfl
  | 26 => rfl
  | 27 => rfl
  | 28 => rfl
  | 29 => rfl
  | 30 => rfl
  | 31 => rfl
  | 32 => rfl
  | 33 => rfl
  | 34 => rfl
  | 35 => rfl
  | 36 => rfl
  | 37 => rfl
  | 38 => rfl
  | 39 => rfl
  | 40 => rfl
  | 41 => rfl
  | 42 => rfl
  | 43 => rfl
  | 44 => rfl
  | 45 => rfl
  | 46 => rfl
  | 47 => rfl
  | 48 => rfl
  | 49 => rfl
  | 50 => rfl
  | 51 => rfl
  | 52 => rfl
  | 53 => rfl
  | 54 => rfl
  | 55 => rfl
  | j + 56 =>
    show (if j + 56 = 7 then _ else _) = _
    rw [if_neg (by omega)]
    rfl
theorem hr_22 (IA : Nat → Nat → Int32) (LA : Nat → Nat → Int64) (RA : Nat → Nat → Option Nat) (SC : Nat → Nat → Int32) (dr : Nat) (tl : Nat → va_E) (g : Nat → Option Nat) : va_up (HC IA LA RA SC dr tl) 22 (.inl (3, 7, .inr (.inr (.inr (.inr g))))) = HC IA LA (va_up RA 22 g) SC dr tl := by
  funext j
  match j with
  | 0 => rfl
  | 1 => rfl
  | 2 => rfl
  | 3 => rfl
  | 4 => rfl
  | 5 => rfl
  | 6 => rfl
  | 7 => rfl
  | 8 => rfl
  | 9 => rfl
  | 10 => rfl
  | 11 => rfl
  | 12 => rfl
  | 13 => rfl
  | 14 => rfl
  | 15 => rfl
  | 16 => rfl
  | 17 => rfl
  | 18 => rfl
  | 19 => rfl
  | 20 => rfl
  | 21 => rfl
  | 22 => rfl
  | 23 => rfl
  | 24 => rfl
  | 25 => rfl
  | 26 => rfl
  | 27 => rfl
  | 28 => rfl
  | 29 => rfl
  | 30 => rfl
  | 31 => rfl
  | 32 => rfl
  | 33 => rfl
  | 34 => rfl
  | 35 => rfl
  | 36 => rfl
  | 37 => rfl
  | 38 => rfl
  | 39 => rfl
  | 40 => rfl
  | 41 => rfl
  | 42 => rfl
  | 43 => rfl
  | 44 => rfl
  | 45 => rfl
  | 46 => rfl
  | 47 => rfl
  | 48 => rfl
  | 49 => rfl
  | 50 => rfl
  | 51 => rfl
  | 52 => rfl
  | 53 => rfl
  | 54 => rfl
  | 55 => rfl
  | j + 56 =>
    show (if j + 56 = 22 then _ else _) = _
    rw [if_neg (by omega)]
    rfl
theorem hr_24 (IA : Nat → Nat → Int32) (LA : Nat → Nat → Int64) (RA : Nat → Nat → Option Nat) (SC : Nat → Nat → Int32) (dr : Nat) (tl : Nat → va_E) (g : Nat → Option Nat) : va_up (HC IA LA RA SC dr tl) 24 (.inl (4, 568, .inr (.inr (.inr (.inr g))))) = HC IA LA (va_up RA 24 g) SC dr tl := by
  funext j
  match j with
  | 0 => rfl
  | 1 => rfl
  | 2 => rfl
  | 3 => rfl
  | 4 => rfl
  | 5 => rfl
  | 6 => rfl
  | 7 => rfl
  | 8 => rfl
  | 9 => rfl
  | 10 => rfl
  | 11 => rfl
  | 12 => rfl
  | 13 => rfl
  | 14 => rfl
  | 15 => rfl
  | 16 => rfl
  | 17 => rfl
  | 18 => rfl
  | 19 => rfl
  | 20 => rfl
  | 21 => rfl
  | 22 => rfl
  | 23 => rfl
  | 24 => rfl
  | 25 => rfl
  | 26 => rfl
  | 27 => rfl
  | 28 => rfl
  | 29 => rfl
  | 30 => rfl
  | 31 => rfl
  | 32 => rfl
  | 33 => rfl
  | 34 => rfl
  | 35 => rfl
  | 36 => rfl
  | 37 => rfl
  | 38 => rfl
  | 39 => rfl
  | 40 => rfl
  | 41 => rfl
  | 42 => rfl
  | 43 => rfl
  | 44 => rfl
  | 45 => rfl
  | 46 => rfl
  | 47 => rfl
  | 48 => rfl
  | 49 => rfl
  | 50 => rfl
  | 51 => rfl
  | 52 => rfl
  | 53 => rfl
  | 54 => rfl
  | 55 => rfl
  | j + 56 =>
    show (if j + 56 = 24 then _ else _) = _
    rw [if_neg (by omega)]
    rfl
theorem hd_1 (IA : Nat → Nat → Int32) (LA : Nat → Nat → Int64) (RA : Nat → Nat → Option Nat) (SC : Nat → Nat → Int32) (dr : Nat) (tl : Nat → va_E) (q : Nat) : va_up (HC IA LA RA SC dr tl) 1 (.inr (6, [.ref 2, .ref 4, .ref q, .ref 19, .int (SC 1 4)])) = HC IA LA RA SC q tl := by
  funext j
  match j with
  | 0 => rfl
  | 1 => rfl
  | 2 => rfl
  | 3 => rfl
  | 4 => rfl
  | 5 => rfl
  | 6 => rfl
  | 7 => rfl
  | 8 => rfl
  | 9 => rfl
  | 10 => rfl
  | 11 => rfl
  | 12 => rfl
  | 13 => rfl
  | 14 => rfl
  | 15 => rfl
  | 16 => rfl
  | 17 => rfl
  | 18 => rfl
  | 19 => rfl
  | 20 => rfl
  | 21 => rfl
  | 22 => rfl
  | 23 => rfl
  | 24 => rfl
  | 25 => rfl
  | 26 => rfl
  | 27 => rfl
  | 28 => rfl
  | 29 => rfl
  | 30 => rfl
  | 31 => rfl
  | 32 => rfl
  | 33 => rfl
  | 34 => rfl
  | 35 => rfl
  | 36 => rfl
  | 37 => rfl
  | 38 => rfl
  | 39 => rfl
  | 40 => rfl
  | 41 => rfl
  | 42 => rfl
  | 43 => rfl
  | 44 => rfl
  | 45 => rfl
  | 46 => rfl
  | 47 => rfl
  | 48 => rfl
  | 49 => rfl
  | 50 => rfl
  | 51 => rfl
  | 52 => rfl
  | 53 => rfl
  | 54 => rfl
  | 55 => rfl
  | j + 56 =>
    show (if j + 56 = 1 then _ else _) = _
    rw [if_neg (by omega)]
    rfl
theorem hs_1_4 (IA : Nat → Nat → Int32) (LA : Nat → Nat → Int64) (RA : Nat → Nat → Option Nat) (SC : Nat → Nat → Int32) (dr : Nat) (tl : Nat → va_E) (x : Int32) : va_up (HC IA LA RA SC dr tl) 1 (.inr (6, [.ref 2, .ref 4, .ref dr, .ref 19, .int x])) = HC IA LA RA (va_up SC 1 (upd (SC 1) 4 x)) dr tl := by
  funext j
  match j with
  | 0 => rfl
  | 1 => rfl
  | 2 => rfl
  | 3 => rfl
  | 4 => rfl
  | 5 => rfl
  | 6 => rfl
  | 7 => rfl
  | 8 => rfl
  | 9 => rfl
  | 10 => rfl
  | 11 => rfl
  | 12 => rfl
  | 13 => rfl
  | 14 => rfl
  | 15 => rfl
  | 16 => rfl
  | 17 => rfl
  | 18 => rfl
  | 19 => rfl
  | 20 => rfl
  | 21 => rfl
  | 22 => rfl
  | 23 => rfl
  | 24 => rfl
  | 25 => rfl
  | 26 => rfl
  | 27 => rfl
  | 28 => rfl
  | 29 => rfl
  | 30 => rfl
  | 31 => rfl
  | 32 => rfl
  | 33 => rfl
  | 34 => rfl
  | 35 => rfl
  | 36 => rfl
  | 37 => rfl
  | 38 => rfl
  | 39 => rfl
  | 40 => rfl
  | 41 => rfl
  | 42 => rfl
  | 43 => rfl
  | 44 => rfl
  | 45 => rfl
  | 46 => rfl
  | 47 => rfl
  | 48 => rfl
  | 49 => rfl
  | 50 => rfl
  | 51 => rfl
  | 52 => rfl
  | 53 => rfl
  | 54 => rfl
  | 55 => rfl
  | j + 56 =>
    show (if j + 56 = 1 then _ else _) = _
    rw [if_neg (by omega)]
    rfl
theorem hs_2_1 (IA : Nat → Nat → Int32) (LA : Nat → Nat → Int64) (RA : Nat → Nat → Option Nat) (SC : Nat → Nat → Int32) (dr : Nat) (tl : Nat → va_E) (x : Int32) : va_up (HC IA LA RA SC dr tl) 2 (.inr (0, [.ref 3, .int x])) = HC IA LA RA (va_up SC 2 (upd (SC 2) 1 x)) dr tl := by
  funext j
  match j with
  | 0 => rfl
  | 1 => rfl
  | 2 => rfl
  | 3 => rfl
  | 4 => rfl
  | 5 => rfl
  | 6 => rfl
  | 7 => rfl
  | 8 => rfl
  | 9 => rfl
  | 10 => rfl
  | 11 => rfl
  | 12 => rfl
  | 13 => rfl
  | 14 => rfl
  | 15 => rfl
  | 16 => rfl
  | 17 => rfl
  | 18 => rfl
  | 19 => rfl
  | 20 => rfl
  | 21 => rfl
  | 22 => rfl
  | 23 => rfl
  | 24 => rfl
  | 25 => rfl
  | 26 => rfl
  | 27 => rfl
  | 28 => rfl
  | 29 => rfl
  | 30 => rfl
  | 31 => rfl
  | 32 => rfl
  | 33 => rfl
  | 34 => rfl
  | 35 => rfl
  | 36 => rfl
  | 37 => rfl
  | 38 => rfl
  | 39 => rfl
  | 40 => rfl
  | 41 => rfl
  | 42 => rfl
  | 43 => rfl
  | 44 => rfl
  | 45 => rfl
  | 46 => rfl
  | 47 => rfl
  | 48 => rfl
  | 49 => rfl
  | 50 => rfl
  | 51 => rfl
  | 52 => rfl
  | 53 => rfl
  | 54 => rfl
  | 55 => rfl
  | j + 56 =>
    show (if j + 56 = 2 then _ else _) = _
    rw [if_neg (by omega)]
    rfl
theorem hs_4_2 (IA : Nat → Nat → Int32) (LA : Nat → Nat → Int64) (RA : Nat → Nat → Option Nat) (SC : Nat → Nat → Int32) (dr : Nat) (tl : Nat → va_E) (x : Int32) : va_up (HC IA LA RA SC dr tl) 4 (.inr (4, [.ref 5, .ref 6, .int x])) = HC IA LA RA (va_up SC 4 (upd (SC 4) 2 x)) dr tl := by
  funext j
  match j with
  | 0 => rfl
  | 1 => rfl
  | 2 => rfl
  | 3 => rfl
  | 4 => rfl
  | 5 => rfl
  | 6 => rfl
  | 7 => rfl
  | 8 => rfl
  | 9 => rfl
  | 10 => rfl
  | 11 => rfl
  | 12 => rfl
  | 13 => rfl
  | 14 => rfl
  | 15 => rfl
  | 16 => rfl
  | 17 => rfl
  | 18 => rfl
  | 19 => rfl
  | 20 => rfl
  | 21 => rfl
  | 22 => rfl
  | 23 => rfl
  | 24 => rfl
  | 25 => rfl
  | 26 => rfl
  | 27 => rfl
  | 28 => rfl
  | 29 => rfl
  | 30 => rfl
  | 31 => rfl
  | 32 => rfl
  | 33 => rfl
  | 34 => rfl
  | 35 => rfl
  | 36 => rfl
  | 37 => rfl
  | 38 => rfl
  | 39 => rfl
  | 40 => rfl
  | 41 => rfl
  | 42 => rfl
  | 43 => rfl
  | 44 => rfl
  | 45 => rfl
  | 46 => rfl
  | 47 => rfl
  | 48 => rfl
  | 49 => rfl
  | 50 => rfl
  | 51 => rfl
  | 52 => rfl
  | 53 => rfl
  | 54 => rfl
  | 55 => rfl
  | j + 56 =>
    show (if j + 56 = 4 then _ else _) = _
    rw [if_neg (by omega)]
    rfl
theorem hs_9_0 (IA : Nat → Nat → Int32) (LA : Nat → Nat → Int64) (RA : Nat → Nat → Option Nat) (SC : Nat → Nat → Int32) (dr : Nat) (tl : Nat → va_E) (x : Int32) : va_up (HC IA LA RA SC dr tl) 9 (.inr (1, [.int x, .int (SC 9 1), .int (SC 9 2), .int (SC 9 3), .int (SC 9 4)])) = HC IA LA RA (va_up SC 9 (upd (SC 9) 0 x)) dr tl := by
  funext j
  match j with
  | 0 => rfl
  | 1 => rfl
  | 2 => rfl
  | 3 => rfl
  | 4 => rfl
  | 5 => rfl
  | 6 => rfl
  | 7 => rfl
  | 8 => rfl
  | 9 => rfl
  | 10 => rfl
  | 11 => rfl
  | 12 => rfl
  | 13 => rfl
  | 14 => rfl
  | 15 => rfl
  | 16 => rfl
  | 17 => rfl
  | 18 => rfl
  | 19 => rfl
  | 20 => rfl
  | 21 => rfl
  | 22 => rfl
  | 23 => rfl
  | 24 => rfl
  | 25 => rfl
  | 26 => rfl
  | 27 => rfl
  | 28 => rfl
  | 29 => rfl
  | 30 => rfl
  | 31 => rfl
  | 32 => rfl
  | 33 => rfl
  | 34 => rfl
  | 35 => rfl
  | 36 => rfl
  | 37 => rfl
  | 38 => rfl
  | 39 => rfl
  | 40 => rfl
  | 41 => rfl
  | 42 => rfl
  | 43 => rfl
  | 44 => rfl
  | 45 => rfl
  | 46 => rfl
  | 47 => rfl
  | 48 => rfl
  | 49 => rfl
  | 50 => rfl
  | 51 => rfl
  | 52 => rfl
  | 53 => rfl
  | 54 => rfl
  | 55 => rfl
  | j + 56 =>
    show (if j + 56 = 9 then _ else _) = _
    rw [if_neg (by omega)]
    rfl
theorem hs_9_1 (IA : Nat → Nat → Int32) (LA : Nat → Nat → Int64) (RA : Nat → Nat → Option Nat) (SC : Nat → Nat → Int32) (dr : Nat) (tl : Nat → va_E) (x : Int32) : va_up (HC IA LA RA SC dr tl) 9 (.inr (1, [.int (SC 9 0), .int x, .int (SC 9 2), .int (SC 9 3), .int (SC 9 4)])) = HC IA LA RA (va_up SC 9 (upd (SC 9) 1 x)) dr tl := by
  funext j
  match j with
  | 0 => rfl
  | 1 => rfl
  | 2 => rfl
  | 3 => rfl
  | 4 => rfl
  | 5 => rfl
  | 6 => rfl
  | 7 => rfl
  | 8 => rfl
  | 9 => rfl
  | 10 => rfl
  | 11 => rfl
  | 12 => rfl
  | 13 => rfl
  | 14 => rfl
  | 15 => rfl
  | 16 => rfl
  | 17 => rfl
  | 18 => rfl
  | 19 => rfl
  | 20 => rfl
  | 21 => rfl
  | 22 => rfl
  | 23 => rfl
  | 24 => rfl
  | 25 => rfl
  | 26 => rfl
  | 27 => rfl
  | 28 => rfl
  | 29 => rfl
  | 30 => rfl
  | 31 => rfl
  | 32 => rfl
  | 33 => rfl
  | 34 => rfl
  | 35 => rfl
  | 36 => rfl
  | 37 => rfl
  | 38 => rfl
  | 39 => rfl
  | 40 => rfl
  | 41 => rfl
  | 42 => rfl
  | 43 => rfl
  | 44 => rfl
  | 45 => rfl
  | 46 => rfl
  | 47 => rfl
  | 48 => rfl
  | 49 => rfl
  | 50 => rfl
  | 51 => rfl
  | 52 => rfl
  | 53 => rfl
  | 54 => rfl
  | 55 => rfl
  | j + 56 =>
    show (if j + 56 = 9 then _ else _) = _
    rw [if_neg (by omega)]
    rfl
theorem hs_9_2 (IA : Nat → Nat → Int32) (LA : Nat → Nat → Int64) (RA : Nat → Nat → Option Nat) (SC : Nat → Nat → Int32) (dr : Nat) (tl : Nat → va_E) (x : Int32) : va_up (HC IA LA RA SC dr tl) 9 (.inr (1, [.int (SC 9 0), .int (SC 9 1), .int x, .int (SC 9 3), .int (SC 9 4)])) = HC IA LA RA (va_up SC 9 (upd (SC 9) 2 x)) dr tl := by
  funext j
  match j with
  | 0 => rfl
  | 1 => rfl
  | 2 => rfl
  | 3 => rfl
  | 4 => rfl
  | 5 => rfl
  | 6 => rfl
  | 7 => rfl
  | 8 => rfl
  | 9 => rfl
  | 10 => rfl
  | 11 => rfl
  | 12 => rfl
  | 13 => rfl
  | 14 => rfl
  | 15 => rfl
  | 16 => rfl
  | 17 => rfl
  | 18 => rfl
  | 19 => rfl
  | 20 => rfl
  | 21 => rfl
  | 22 => rfl
  | 23 => rfl
  | 24 => rfl
  | 25 => rfl
  | 26 => rfl
  | 27 => rfl
  | 28 => rfl
  | 29 => rfl
  | 30 => rfl
  | 31 => rfl
  | 32 => rfl
  | 33 => rfl
  | 34 => rfl
  | 35 => rfl
  | 36 => rfl
  | 37 => rfl
  | 38 => rfl
  | 39 => rfl
  | 40 => rfl
  | 41 => rfl
  | 42 => rfl
  | 43 => rfl
  | 44 => rfl
  | 45 => rfl
  | 46 => rfl
  | 47 => rfl
  | 48 => rfl
  | 49 => rfl
  | 50 => rfl
  | 51 => rfl
  | 52 => rfl
  | 53 => rfl
  | 54 => rfl
  | 55 => rfl
  | j + 56 =>
    show (if j + 56 = 9 then _ else _) = _
    rw [if_neg (by omega)]
    rfl
theorem hs_9_3 (IA : Nat → Nat → Int32) (LA : Nat → Nat → Int64) (RA : Nat → Nat → Option Nat) (SC : Nat → Nat → Int32) (dr : Nat) (tl : Nat → va_E) (x : Int32) : va_up (HC IA LA RA SC dr tl) 9 (.inr (1, [.int (SC 9 0), .int (SC 9 1), .int (SC 9 2), .int x, .int (SC 9 4)])) = HC IA LA RA (va_up SC 9 (upd (SC 9) 3 x)) dr tl := by
  funext j
  match j with
  | 0 => rfl
  | 1 => rfl
  | 2 => rfl
  | 3 => rfl
  | 4 => rfl
  | 5 => rfl
  | 6 => rfl
  | 7 => rfl
  | 8 => rfl
  | 9 => rfl
  | 10 => rfl
  | 11 => rfl
  | 12 => rfl
  | 13 => rfl
  | 14 => rfl
  | 15 => rfl
  | 16 => rfl
  | 17 => rfl
  | 18 => rfl
  | 19 => rfl
  | 20 => rfl
  | 21 => rfl
  | 22 => rfl
  | 23 => rfl
  | 24 => rfl
  | 25 => rfl
  | 26 => rfl
  | 27 => rfl
  | 28 => rfl
  | 29 => rfl
  | 30 => rfl
  | 31 => rfl
  | 32 => rfl
  | 33 => rfl
  | 34 => rfl
  | 35 => rfl
  | 36 => rfl
  | 37 => rfl
  | 38 => rfl
  | 39 => rfl
  | 40 => rfl
  | 41 => rfl
  | 42 => rfl
  | 43 => rfl
  | 44 => rfl
  | 45 => rfl
  | 46 => rfl
  | 47 => rfl
  | 48 => rfl
  | 49 => rfl
  | 50 => rfl
  | 51 => rfl
  | 52 => rfl
  | 53 => rfl
  | 54 => rfl
  | 55 => rfl
  | j + 56 =>
    show (if j + 56 = 9 then _ else _) = _
    rw [if_neg (by omega)]
    rfl
theorem hs_9_4 (IA : Nat → Nat → Int32) (LA : Nat → Nat → Int64) (RA : Nat → Nat → Option Nat) (SC : Nat → Nat → Int32) (dr : Nat) (tl : Nat → va_E) (x : Int32) : va_up (HC IA LA RA SC dr tl) 9 (.inr (1, [.int (SC 9 0), .int (SC 9 1), .int (SC 9 2), .int (SC 9 3), .int x])) = HC IA LA RA (va_up SC 9 (upd (SC 9) 4 x)) dr tl := by
  funext j
  match j with
  | 0 => rfl
  | 1 => rfl
  | 2 => rfl
  | 3 => rfl
  | 4 => rfl
  | 5 => rfl
  | 6 => rfl
  | 7 => rfl
  | 8 => rfl
  | 9 => rfl
  | 10 => rfl
  | 11 => rfl
  | 12 => rfl
  | 13 => rfl
  | 14 => rfl
  | 15 => rfl
  | 16 => rfl
  | 17 => rfl
  | 18 => rfl
  | 19 => rfl
  | 20 => rfl
  | 21 => rfl
  | 22 => rfl
  | 23 => rfl
  | 24 => rfl
  | 25 => rfl
  | 26 => rfl
  | 27 => rfl
  | 28 => rfl
  | 29 => rfl
  | 30 => rfl
  | 31 => rfl
  | 32 => rfl
  | 33 => rfl
  | 34 => rfl
  | 35 => rfl
  | 36 => rfl
  | 37 => rfl
  | 38 => rfl
  | 39 => rfl
  | 40 => rfl
  | 41 => rfl
  | 42 => rfl
  | 43 => rfl
  | 44 => rfl
  | 45 => rfl
  | 46 => rfl
  | 47 => rfl
  | 48 => rfl
  | 49 => rfl
  | 50 => rfl
  | 51 => rfl
  | 52 => rfl
  | 53 => rfl
  | 54 => rfl
  | 55 => rfl
  | j + 56 =>
    show (if j + 56 = 9 then _ else _) = _
    rw [if_neg (by omega)]
    rfl
theorem hs_10_0 (IA : Nat → Nat → Int32) (LA : Nat → Nat → Int64) (RA : Nat → Nat → Option Nat) (SC : Nat → Nat → Int32) (dr : Nat) (tl : Nat → va_E) (x : Int32) : va_up (HC IA LA RA SC dr tl) 10 (.inr (1, [.int x, .int (SC 10 1), .int (SC 10 2), .int (SC 10 3), .int (SC 10 4)])) = HC IA LA RA (va_up SC 10 (upd (SC 10) 0 x)) dr tl := by
  funext j
  match j with
  | 0 => rfl
  | 1 => rfl
  | 2 => rfl
  | 3 => rfl
  | 4 => rfl
  | 5 => rfl
  | 6 => rfl
  | 7 => rfl
  | 8 => rfl
  | 9 => rfl
  | 10 => rfl
  | 11 => rfl
  | 12 => rfl
  | 13 => rfl
  | 14 => rfl
  | 15 => rfl
  | 16 => rfl
  | 17 => rfl
  | 18 => rfl
  | 19 => rfl
  | 20 => rfl
  | 21 => rfl
  | 22 => rfl
  | 23 => rfl
  | 24 => rfl
  | 25 => rfl
  | 26 => rfl
  | 27 => rfl
  | 28 => rfl
  | 29 => rfl
  | 30 => rfl
  | 31 => rfl
  | 32 => rfl
  | 33 => rfl
  | 34 => rfl
  | 35 => rfl
  | 36 => rfl
  | 37 => rfl
  | 38 => rfl
  | 39 => rfl
  | 40 => rfl
  | 41 => rfl
  | 42 => rfl
  | 43 => rfl
  | 44 => rfl
  | 45 => rfl
  | 46 => rfl
  | 47 => rfl
  | 48 => rfl
  | 49 => rfl
  | 50 => rfl
  | 51 => rfl
  | 52 => rfl
  | 53 => rfl
  | 54 => rfl
  | 55 => rfl
  | j + 56 =>
    show (if j + 56 = 10 then _ else _) = _
    rw [if_neg (by omega)]
    rfl
theorem hs_10_1 (IA : Nat → Nat → Int32) (LA : Nat → Nat → Int64) (RA : Nat → Nat → Option Nat) (SC : Nat → Nat → Int32) (dr : Nat) (tl : Nat → va_E) (x : Int32) : va_up (HC IA LA RA SC dr tl) 10 (.inr (1, [.int (SC 10 0), .int x, .int (SC 10 2), .int (SC 10 3), .int (SC 10 4)])) = HC IA LA RA (va_up SC 10 (upd (SC 10) 1 x)) dr tl := by
  funext j
  match j with
  | 0 => rfl
  | 1 => rfl
  | 2 => rfl
  | 3 => rfl
  | 4 => rfl
  | 5 => rfl
  | 6 => rfl
  | 7 => rfl
  | 8 => rfl
  | 9 => rfl
  | 10 => rfl
  | 11 => rfl
  | 12 => rfl
  | 13 => rfl
  | 14 => rfl
  | 15 => rfl
  | 16 => rfl
  | 17 => rfl
  | 18 => rfl
  | 19 => rfl
  | 20 => rfl
  | 21 => rfl
  | 22 => rfl
  | 23 => rfl
  | 24 => rfl
  | 25 => rfl
  | 26 => rfl
  | 27 => rfl
  | 28 => rfl
  | 29 => rfl
  | 30 => rfl
  | 31 => rfl
  | 32 => rfl
  | 33 => rfl
  | 34 => rfl
  | 35 => rfl
  | 36 => rfl
  | 37 => rfl
  | 38 => rfl
  | 39 => rfl
  | 40 => rfl
  | 41 => rfl
  | 42 => rfl
  | 43 => rfl
  | 44 => rfl
  | 45 => rfl
  | 46 => rfl
  | 47 => rfl
  | 48 => rfl
  | 49 => rfl
  | 50 => rfl
  | 51 => rfl
  | 52 => rfl
  | 53 => rfl
  | 54 => rfl
  | 55 => rfl
  | j + 56 =>
    show (if j + 56 = 10 then _ else _) = _
    rw [if_neg (by omega)]
    rfl
theorem hs_10_2 (IA : Nat → Nat → Int32) (LA : Nat → Nat → Int64) (RA : Nat → Nat → Option Nat) (SC : Nat → Nat → Int32) (dr : Nat) (tl : Nat → va_E) (x : Int32) : va_up (HC IA LA RA SC dr tl) 10 (.inr (1, [.int (SC 10 0), .int (SC 10 1), .int x, .int (SC 10 3), .int (SC 10 4)])) = HC IA LA RA (va_up SC 10 (upd (SC 10) 2 x)) dr tl := by
  funext j
  match j with
  | 0 => rfl
  | 1 => rfl
  | 2 => rfl
  | 3 => rfl
  | 4 => rfl
  | 5 => rfl
  | 6 => rfl
  | 7 => rfl
  | 8 => rfl
  | 9 => rfl
  | 10 => rfl
  | 11 => rfl
  | 12 => rfl
  | 13 => rfl
  | 14 => rfl
  | 15 => rfl
  | 16 => rfl
  | 17 => rfl
  | 18 => rfl
  | 19 => rfl
  | 20 => rfl
  | 21 => rfl
  | 22 => rfl
  | 23 => rfl
  | 24 => rfl
  | 25 => rfl
  | 26 => rfl
  | 27 => rfl
  | 28 => rfl
  | 29 => rfl
  | 30 => rfl
  | 31 => rfl
  | 32 => rfl
  | 33 => rfl
  | 34 => rfl
  | 35 => rfl
  | 36 => rfl
  | 37 => rfl
  | 38 => rfl
  | 39 => rfl
  | 40 => rfl
  | 41 => rfl
  | 42 => rfl
  | 43 => rfl
  | 44 => rfl
  | 45 => rfl
  | 46 => rfl
  | 47 => rfl
  | 48 => rfl
  | 49 => rfl
  | 50 => rfl
  | 51 => rfl
  | 52 => rfl
  | 53 => rfl
  | 54 => rfl
  | 55 => rfl
  | j + 56 =>
    show (if j + 56 = 10 then _ else _) = _
    rw [if_neg (by omega)]
    rfl
theorem hs_10_3 (IA : Nat → Nat → Int32) (LA : Nat → Nat → Int64) (RA : Nat → Nat → Option Nat) (SC : Nat → Nat → Int32) (dr : Nat) (tl : Nat → va_E) (x : Int32) : va_up (HC IA LA RA SC dr tl) 10 (.inr (1, [.int (SC 10 0), .int (SC 10 1), .int (SC 10 2), .int x, .int (SC 10 4)])) = HC IA LA RA (va_up SC 10 (upd (SC 10) 3 x)) dr tl := by
  funext j
  match j with
  | 0 => rfl
  | 1 => rfl
  | 2 => rfl
  | 3 => rfl
  | 4 => rfl
  | 5 => rfl
  | 6 => rfl
  | 7 => rfl
  | 8 => rfl
  | 9 => rfl
  | 10 => rfl
  | 11 => rfl
  | 12 => rfl
  | 13 => rfl
  | 14 => rfl
  | 15 => rfl
  | 16 => rfl
  | 17 => rfl
  | 18 => rfl
  | 19 => rfl
  | 20 => rfl
  | 21 => rfl
  | 22 => rfl
  | 23 => rfl
  | 24 => rfl
  | 25 => rfl
  | 26 => rfl
  | 27 => rfl
  | 28 => rfl
  | 29 => rfl
  | 30 => rfl
  | 31 => rfl
  | 32 => rfl
  | 33 => rfl
  | 34 => rfl
  | 35 => rfl
  | 36 => rfl
  | 37 => rfl
  | 38 => rfl
  | 39 => rfl
  | 40 => rfl
  | 41 => rfl
  | 42 => rfl
  | 43 => rfl
  | 44 => rfl
  | 45 => rfl
  | 46 => rfl
  | 47 => rfl
  | 48 => rfl
  | 49 => rfl
  | 50 => rfl
  | 51 => rfl
  | 52 => rfl
  | 53 => rfl
  | 54 => rfl
  | 55 => rfl
  | j + 56 =>
    show (if j + 56 = 10 then _ else _) = _
    rw [if_neg (by omega)]
    rfl
theorem hs_10_4 (IA : Nat → Nat → Int32) (LA : Nat → Nat → Int64) (RA : Nat → Nat → Option Nat) (SC : Nat → Nat → Int32) (dr : Nat) (tl : Nat → va_E) (x : Int32) : va_up (HC IA LA RA SC dr tl) 10 (.inr (1, [.int (SC 10 0), .int (SC 10 1), .int (SC 10 2), .int (SC 10 3), .int x])) = HC IA LA RA (va_up SC 10 (upd (SC 10) 4 x)) dr tl := by
  funext j
  match j with
  | 0 => rfl
  | 1 => rfl
  | 2 => rfl
  | 3 => rfl
  | 4 => rfl
  | 5 => rfl
  | 6 => rfl
  | 7 => rfl
  | 8 => rfl
  | 9 => rfl
  | 10 => rfl
  | 11 => rfl
  | 12 => rfl
  | 13 => rfl
  | 14 => rfl
  | 15 => rfl
  | 16 => rfl
  | 17 => rfl
  | 18 => rfl
  | 19 => rfl
  | 20 => rfl
  | 21 => rfl
  | 22 => rfl
  | 23 => rfl
  | 24 => rfl
  | 25 => rfl
  | 26 => rfl
  | 27 => rfl
  | 28 => rfl
  | 29 => rfl
  | 30 => rfl
  | 31 => rfl
  | 32 => rfl
  | 33 => rfl
  | 34 => rfl
  | 35 => rfl
  | 36 => rfl
  | 37 => rfl
  | 38 => rfl
  | 39 => rfl
  | 40 => rfl
  | 41 => rfl
  | 42 => rfl
  | 43 => rfl
  | 44 => rfl
  | 45 => rfl
  | 46 => rfl
  | 47 => rfl
  | 48 => rfl
  | 49 => rfl
  | 50 => rfl
  | 51 => rfl
  | 52 => rfl
  | 53 => rfl
  | 54 => rfl
  | 55 => rfl
  | j + 56 =>
    show (if j + 56 = 10 then _ else _) = _
    rw [if_neg (by omega)]
    rfl
theorem hs_11_0 (IA : Nat → Nat → Int32) (LA : Nat → Nat → Int64) (RA : Nat → Nat → Option Nat) (SC : Nat → Nat → Int32) (dr : Nat) (tl : Nat → va_E) (x : Int32) : va_up (HC IA LA RA SC dr tl) 11 (.inr (1, [.int x, .int (SC 11 1), .int (SC 11 2), .int (SC 11 3), .int (SC 11 4)])) = HC IA LA RA (va_up SC 11 (upd (SC 11) 0 x)) dr tl := by
  funext j
  match j with
  | 0 => rfl
  | 1 => rfl
  | 2 => rfl
  | 3 => rfl
  | 4 => rfl
  | 5 => rfl
  | 6 => rfl
  | 7 => rfl
  | 8 => rfl
  | 9 => rfl
  | 10 => rfl
  | 11 => rfl
  | 12 => rfl
  | 13 => rfl
  | 14 => rfl
  | 15 => rfl
  | 16 => rfl
  | 17 => rfl
  | 18 => rfl
  | 19 => rfl
  | 20 => rfl
  | 21 => rfl
  | 22 => rfl
  | 23 => rfl
  | 24 => rfl
  | 25 => rfl
  | 26 => rfl
  | 27 => rfl
  | 28 => rfl
  | 29 => rfl
  | 30 => rfl
  | 31 => rfl
  | 32 => rfl
  | 33 => rfl
  | 34 => rfl
  | 35 => rfl
  | 36 => rfl
  | 37 => rfl
  | 38 => rfl
  | 39 => rfl
  | 40 => rfl
  | 41 => rfl
  | 42 => rfl
  | 43 => rfl
  | 44 => rfl
  | 45 => rfl
  | 46 => rfl
  | 47 => rfl
  | 48 => rfl
  | 49 => rfl
  | 50 => rfl
  | 51 => rfl
  | 52 => rfl
  | 53 => rfl
  | 54 => rfl
  | 55 => rfl
  | j + 56 =>
    show (if j + 56 = 11 then _ else _) = _
    rw [if_neg (by omega)]
    rfl
theorem hs_11_1 (IA : Nat → Nat → Int32) (LA : Nat → Nat → Int64) (RA : Nat → Nat → Option Nat) (SC : Nat → Nat → Int32) (dr : Nat) (tl : Nat → va_E) (x : Int32) : va_up (HC IA LA RA SC dr tl) 11 (.inr (1, [.int (SC 11 0), .int x, .int (SC 11 2), .int (SC 11 3), .int (SC 11 4)])) = HC IA LA RA (va_up SC 11 (upd (SC 11) 1 x)) dr tl := by
  funext j
  match j with
  | 0 => rfl
  | 1 => rfl
  | 2 => rfl
  | 3 => rfl
  | 4 => rfl
  | 5 => rfl
  | 6 => rfl
  | 7 => rfl
  | 8 => rfl
  | 9 => rfl
  | 10 => rfl
  | 11 => rfl
  | 12 => rfl
  | 13 => rfl
  | 14 => rfl
  | 15 => rfl
  | 16 => rfl
  | 17 => rfl
  | 18 => rfl
  | 19 => rfl
  | 20 => rfl
  | 21 => rfl
  | 22 => rfl
  | 23 => rfl
  | 24 => rfl
  | 25 => rfl
  | 26 => rfl
  | 27 => rfl
  | 28 => rfl
  | 29 => rfl
  | 30 => rfl
  | 31 => rfl
  | 32 => rfl
  | 33 => rfl
  | 34 => rfl
  | 35 => rfl
  | 36 => rfl
  | 37 => rfl
  | 38 => rfl
  | 39 => rfl
  | 40 => rfl
  | 41 => rfl
  | 42 => rfl
  | 43 => rfl
  | 44 => rfl
  | 45 => rfl
  | 46 => rfl
  | 47 => rfl
  | 48 => rfl
  | 49 => rfl
  | 50 => rfl
  | 51 => rfl
  | 52 => rfl
  | 53 => rfl
  | 54 => rfl
  | 55 => rfl
  | j + 56 =>
    show (if j + 56 = 11 then _ else _) = _
    rw [if_neg (by omega)]
    rfl
theorem hs_11_2 (IA : Nat → Nat → Int32) (LA : Nat → Nat → Int64) (RA : Nat → Nat → Option Nat) (SC : Nat → Nat → Int32) (dr : Nat) (tl : Nat → va_E) (x : Int32) : va_up (HC IA LA RA SC dr tl) 11 (.inr (1, [.int (SC 11 0), .int (SC 11 1), .int x, .int (SC 11 3), .int (SC 11 4)])) = HC IA LA RA (va_up SC 11 (upd (SC 11) 2 x)) dr tl := by
  funext j
  match j with
  | 0 => rfl
  | 1 => rfl
  | 2 => rfl
  | 3 => rfl
  | 4 => rfl
  | 5 => rfl
  | 6 => rfl
  | 7 => rfl
  | 8 => rfl
  | 9 => rfl
  | 10 => rfl
  | 11 => rfl
  | 12 => rfl
  | 13 => rfl
  | 14 => rfl
  | 15 => rfl
  | 16 => rfl
  | 17 => rfl
  | 18 => rfl
  | 19 => rfl
  | 20 => rfl
  | 21 => rfl
  | 22 => rfl
  | 23 => rfl
  | 24 => rfl
  | 25 => rfl
  | 26 => rfl
  | 27 => rfl
  | 28 => rfl
  | 29 => rfl
  | 30 => rfl
  | 31 => rfl
  | 32 => rfl
  | 33 => rfl
  | 34 => rfl
  | 35 => rfl
  | 36 => rfl
  | 37 => rfl
  | 38 => rfl
  | 39 => rfl
  | 40 => rfl
  | 41 => rfl
  | 42 => rfl
  | 43 => rfl
  | 44 => rfl
  | 45 => rfl
  | 46 => rfl
  | 47 => rfl
  | 48 => rfl
  | 49 => rfl
  | 50 => rfl
  | 51 => rfl
  | 52 => rfl
  | 53 => rfl
  | 54 => rfl
  | 55 => rfl
  | j + 56 =>
    show (if j + 56 = 11 then _ else _) = _
    rw [if_neg (by omega)]
    rfl
theorem hs_11_3 (IA : Nat → Nat → Int32) (LA : Nat → Nat → Int64) (RA : Nat → Nat → Option Nat) (SC : Nat → Nat → Int32) (dr : Nat) (tl : Nat → va_E) (x : Int32) : va_up (HC IA LA RA SC dr tl) 11 (.inr (1, [.int (SC 11 0), .int (SC 11 1), .int (SC 11 2), .int x, .int (SC 11 4)])) = HC IA LA RA (va_up SC 11 (upd (SC 11) 3 x)) dr tl := by
  funext j
  match j with
  | 0 => rfl
  | 1 => rfl
  | 2 => rfl
  | 3 => rfl
  | 4 => rfl
  | 5 => rfl
  | 6 => rfl
  | 7 => rfl
  | 8 => rfl
  | 9 => rfl
  | 10 => rfl
  | 11 => rfl
  | 12 => rfl
  | 13 => rfl
  | 14 => rfl
  | 15 => rfl
  | 16 => rfl
  | 17 => rfl
  | 18 => rfl
  | 19 => rfl
  | 20 => rfl
  | 21 => rfl
  | 22 => rfl
  | 23 => rfl
  | 24 => rfl
  | 25 => rfl
  | 26 => rfl
  | 27 => rfl
  | 28 => rfl
  | 29 => rfl
  | 30 => rfl
  | 31 => rfl
  | 32 => rfl
  | 33 => rfl
  | 34 => rfl
  | 35 => rfl
  | 36 => rfl
  | 37 => rfl
  | 38 => rfl
  | 39 => rfl
  | 40 => rfl
  | 41 => rfl
  | 42 => rfl
  | 43 => rfl
  | 44 => rfl
  | 45 => rfl
  | 46 => rfl
  | 47 => rfl
  | 48 => rfl
  | 49 => rfl
  | 50 => rfl
  | 51 => rfl
  | 52 => rfl
  | 53 => rfl
  | 54 => rfl
  | 55 => rfl
  | j + 56 =>
    show (if j + 56 = 11 then _ else _) = _
    rw [if_neg (by omega)]
    rfl
theorem hs_11_4 (IA : Nat → Nat → Int32) (LA : Nat → Nat → Int64) (RA : Nat → Nat → Option Nat) (SC : Nat → Nat → Int32) (dr : Nat) (tl : Nat → va_E) (x : Int32) : va_up (HC IA LA RA SC dr tl) 11 (.inr (1, [.int (SC 11 0), .int (SC 11 1), .int (SC 11 2), .int (SC 11 3), .int x])) = HC IA LA RA (va_up SC 11 (upd (SC 11) 4 x)) dr tl := by
  funext j
  match j with
  | 0 => rfl
  | 1 => rfl
  | 2 => rfl
  | 3 => rfl
  | 4 => rfl
  | 5 => rfl
  | 6 => rfl
  | 7 => rfl
  | 8 => rfl
  | 9 => rfl
  | 10 => rfl
  | 11 => rfl
  | 12 => rfl
  | 13 => rfl
  | 14 => rfl
  | 15 => rfl
  | 16 => rfl
  | 17 => rfl
  | 18 => rfl
  | 19 => rfl
  | 20 => rfl
  | 21 => rfl
  | 22 => rfl
  | 23 => rfl
  | 24 => rfl
  | 25 => rfl
  | 26 => rfl
  | 27 => rfl
  | 28 => rfl
  | 29 => rfl
  | 30 => rfl
  | 31 => rfl
  | 32 => rfl
  | 33 => rfl
  | 34 => rfl
  | 35 => rfl
  | 36 => rfl
  | 37 => rfl
  | 38 => rfl
  | 39 => rfl
  | 40 => rfl
  | 41 => rfl
  | 42 => rfl
  | 43 => rfl
  | 44 => rfl
  | 45 => rfl
  | 46 => rfl
  | 47 => rfl
  | 48 => rfl
  | 49 => rfl
  | 50 => rfl
  | 51 => rfl
  | 52 => rfl
  | 53 => rfl
  | 54 => rfl
  | 55 => rfl
  | j + 56 =>
    show (if j + 56 = 11 then _ else _) = _
    rw [if_neg (by omega)]
    rfl
theorem hs_12_0 (IA : Nat → Nat → Int32) (LA : Nat → Nat → Int64) (RA : Nat → Nat → Option Nat) (SC : Nat → Nat → Int32) (dr : Nat) (tl : Nat → va_E) (x : Int32) : va_up (HC IA LA RA SC dr tl) 12 (.inr (1, [.int x, .int (SC 12 1), .int (SC 12 2), .int (SC 12 3), .int (SC 12 4)])) = HC IA LA RA (va_up SC 12 (upd (SC 12) 0 x)) dr tl := by
  funext j
  match j with
  | 0 => rfl
  | 1 => rfl
  | 2 => rfl
  | 3 => rfl
  | 4 => rfl
  | 5 => rfl
  | 6 => rfl
  | 7 => rfl
  | 8 => rfl
  | 9 => rfl
  | 10 => rfl
  | 11 => rfl
  | 12 => rfl
  | 13 => rfl
  | 14 => rfl
  | 15 => rfl
  | 16 => rfl
  | 17 => rfl
  | 18 => rfl
  | 19 => rfl
  | 20 => rfl
  | 21 => rfl
  | 22 => rfl
  | 23 => rfl
  | 24 => rfl
  | 25 => rfl
  | 26 => rfl
  | 27 => rfl
  | 28 => rfl
  | 29 => rfl
  | 30 => rfl
  | 31 => rfl
  | 32 => rfl
  | 33 => rfl
  | 34 => rfl
  | 35 => rfl
  | 36 => rfl
  | 37 => rfl
  | 38 => rfl
  | 39 => rfl
  | 40 => rfl
  | 41 => rfl
  | 42 => rfl
  | 43 => rfl
  | 44 => rfl
  | 45 => rfl
  | 46 => rfl
  | 47 => rfl
  | 48 => rfl
  | 49 => rfl
  | 50 => rfl
  | 51 => rfl
  | 52 => rfl
  | 53 => rfl
  | 54 => rfl
  | 55 => rfl
  | j + 56 =>
    show (if j + 56 = 12 then _ else _) = _
    rw [if_neg (by omega)]
    rfl
theorem hs_12_1 (IA : Nat → Nat → Int32) (LA : Nat → Nat → Int64) (RA : Nat → Nat → Option Nat) (SC : Nat → Nat → Int32) (dr : Nat) (tl : Nat → va_E) (x : Int32) : va_up (HC IA LA RA SC dr tl) 12 (.inr (1, [.int (SC 12 0), .int x, .int (SC 12 2), .int (SC 12 3), .int (SC 12 4)])) = HC IA LA RA (va_up SC 12 (upd (SC 12) 1 x)) dr tl := by
  funext j
  match j with
  | 0 => rfl
  | 1 => rfl
  | 2 => rfl
  | 3 => rfl
  | 4 => rfl
  | 5 => rfl
  | 6 => rfl
  | 7 => rfl
  | 8 => rfl
  | 9 => rfl
  | 10 => rfl
  | 11 => rfl
  | 12 => rfl
  | 13 => rfl
  | 14 => rfl
  | 15 => rfl
  | 16 => rfl
  | 17 => rfl
  | 18 => rfl
  | 19 => rfl
  | 20 => rfl
  | 21 => rfl
  | 22 => rfl
  | 23 => rfl
  | 24 => rfl
  | 25 => rfl
  | 26 => rfl
  | 27 => rfl
  | 28 => rfl
  | 29 => rfl
  | 30 => rfl
  | 31 => rfl
  | 32 => rfl
  | 33 => rfl
  | 34 => rfl
  | 35 => rfl
  | 36 => rfl
  | 37 => rfl
  | 38 => rfl
  | 39 => rfl
  | 40 => rfl
  | 41 => rfl
  | 42 => rfl
  | 43 => rfl
  | 44 => rfl
  | 45 => rfl
  | 46 => rfl
  | 47 => rfl
  | 48 => rfl
  | 49 => rfl
  | 50 => rfl
  | 51 => rfl
  | 52 => rfl
  | 53 => rfl
  | 54 => rfl
  | 55 => rfl
  | j + 56 =>
    show (if j + 56 = 12 then _ else _) = _
    rw [if_neg (by omega)]
    rfl
theorem hs_12_2 (IA : Nat → Nat → Int32) (LA : Nat → Nat → Int64) (RA : Nat → Nat → Option Nat) (SC : Nat → Nat → Int32) (dr : Nat) (tl : Nat → va_E) (x : Int32) : va_up (HC IA LA RA SC dr tl) 12 (.inr (1, [.int (SC 12 0), .int (SC 12 1), .int x, .int (SC 12 3), .int (SC 12 4)])) = HC IA LA RA (va_up SC 12 (upd (SC 12) 2 x)) dr tl := by
  funext j
  match j with
  | 0 => rfl
  | 1 => rfl
  | 2 => rfl
  | 3 => rfl
  | 4 => rfl
  | 5 => rfl
  | 6 => rfl
  | 7 => rfl
  | 8 => rfl
  | 9 => rfl
  | 10 => rfl
  | 11 => rfl
  | 12 => rfl
  | 13 => rfl
  | 14 => rfl
  | 15 => rfl
  | 16 => rfl
  | 17 => rfl
  | 18 => rfl
  | 19 => rfl
  | 20 => rfl
  | 21 => rfl
  | 22 => rfl
  | 23 => rfl
  | 24 => rfl
  | 25 => rfl
  | 26 => rfl
  | 27 => rfl
  | 28 => rfl
  | 29 => rfl
  | 30 => rfl
  | 31 => rfl
  | 32 => rfl
  | 33 => rfl
  | 34 => rfl
  | 35 => rfl
  | 36 => rfl
  | 37 => rfl
  | 38 => rfl
  | 39 => rfl
  | 40 => rfl
  | 41 => rfl
  | 42 => rfl
  | 43 => rfl
  | 44 => rfl
  | 45 => rfl
  | 46 => rfl
  | 47 => rfl
  | 48 => rfl
  | 49 => rfl
  | 50 => rfl
  | 51 => rfl
  | 52 => rfl
  | 53 => rfl
  | 54 => rfl
  | 55 => rfl
  | j + 56 =>
    show (if j + 56 = 12 then _ else _) = _
    rw [if_neg (by omega)]
    rfl
theorem hs_12_3 (IA : Nat → Nat → Int32) (LA : Nat → Nat → Int64) (RA : Nat → Nat → Option Nat) (SC : Nat → Nat → Int32) (dr : Nat) (tl : Nat → va_E) (x : Int32) : va_up (HC IA LA RA SC dr tl) 12 (.inr (1, [.int (SC 12 0), .int (SC 12 1), .int (SC 12 2), .int x, .int (SC 12 4)])) = HC IA LA RA (va_up SC 12 (upd (SC 12) 3 x)) dr tl := by
  funext j
  match j with
  | 0 => rfl
  | 1 => rfl
  | 2 => rfl
  | 3 => rfl
  | 4 => rfl
  | 5 => rfl
  | 6 => rfl
  | 7 => rfl
  | 8 => rfl
  | 9 => rfl
  | 10 => rfl
  | 11 => rfl
  | 12 => rfl
  | 13 => rfl
  | 14 => rfl
  | 15 => rfl
  | 16 => rfl
  | 17 => rfl
  | 18 => rfl
  | 19 => rfl
  | 20 => rfl
  | 21 => rfl
  | 22 => rfl
  | 23 => rfl
  | 24 => rfl
  | 25 => rfl
  | 26 => rfl
  | 27 => rfl
  | 28 => rfl
  | 29 => rfl
  | 30 => rfl
  | 31 => rfl
  | 32 => rfl
  | 33 => rfl
  | 34 => rfl
  | 35 => rfl
  | 36 => rfl
  | 37 => rfl
  | 38 => rfl
  | 39 => rfl
  | 40 => rfl
  | 41 => rfl
  | 42 => rfl
  | 43 => rfl
  | 44 => rfl
  | 45 => rfl
  | 46 => rfl
  | 47 => rfl
  | 48 => rfl
  | 49 => rfl
  | 50 => rfl
  | 51 => rfl
  | 52 => rfl
  | 53 => rfl
  | 54 => rfl
  | 55 => rfl
  | j + 56 =>
    show (if j + 56 = 12 then _ else _) = _
    rw [if_neg (by omega)]
    rfl
theorem hs_12_4 (IA : Nat → Nat → Int32) (LA : Nat → Nat → Int64) (RA : Nat → Nat → Option Nat) (SC : Nat → Nat → Int32) (dr : Nat) (tl : Nat → va_E) (x : Int32) : va_up (HC IA LA RA SC dr tl) 12 (.inr (1, [.int (SC 12 0), .int (SC 12 1), .int (SC 12 2), .int (SC 12 3), .int x])) = HC IA LA RA (va_up SC 12 (upd (SC 12) 4 x)) dr tl := by
  funext j
  match j with
  | 0 => rfl
  | 1 => rfl
  | 2 => rfl
  | 3 => rfl
  | 4 => rfl
  | 5 => rfl
  | 6 => rfl
  | 7 => rfl
  | 8 => rfl
  | 9 => rfl
  | 10 => rfl
  | 11 => rfl
  | 12 => rfl
  | 13 => rfl
  | 14 => rfl
  | 15 => rfl
  | 16 => rfl
  | 17 => rfl
  | 18 => rfl
  | 19 => rfl
  | 20 => rfl
  | 21 => rfl
  | 22 => rfl
  | 23 => rfl
  | 24 => rfl
  | 25 => rfl
  | 26 => rfl
  | 27 => rfl
  | 28 => rfl
  | 29 => rfl
  | 30 => rfl
  | 31 => rfl
  | 32 => rfl
  | 33 => rfl
  | 34 => rfl
  | 35 => rfl
  | 36 => rfl
  | 37 => rfl
  | 38 => rfl
  | 39 => rfl
  | 40 => rfl
  | 41 => rfl
  | 42 => rfl
  | 43 => rfl
  | 44 => rfl
  | 45 => rfl
  | 46 => rfl
  | 47 => rfl
  | 48 => rfl
  | 49 => rfl
  | 50 => rfl
  | 51 => rfl
  | 52 => rfl
  | 53 => rfl
  | 54 => rfl
  | 55 => rfl
  | j + 56 =>
    show (if j + 56 = 12 then _ else _) = _
    rw [if_neg (by omega)]
    rfl
theorem hs_13_0 (IA : Nat → Nat → Int32) (LA : Nat → Nat → Int64) (RA : Nat → Nat → Option Nat) (SC : Nat → Nat → Int32) (dr : Nat) (tl : Nat → va_E) (x : Int32) : va_up (HC IA LA RA SC dr tl) 13 (.inr (1, [.int x, .int (SC 13 1), .int (SC 13 2), .int (SC 13 3), .int (SC 13 4)])) = HC IA LA RA (va_up SC 13 (upd (SC 13) 0 x)) dr tl := by
  funext j
  match j with
  | 0 => rfl
  | 1 => rfl
  | 2 => rfl
  | 3 => rfl
  | 4 => rfl
  | 5 => rfl
  | 6 => rfl
  | 7 => rfl
  | 8 => rfl
  | 9 => rfl
  | 10 => rfl
  | 11 => rfl
  | 12 => rfl
  | 13 => rfl
  | 14 => rfl
  | 15 => rfl
  | 16 => rfl
  | 17 => rfl
  | 18 => rfl
  | 19 => rfl
  | 20 => rfl
  | 21 => rfl
  | 22 => rfl
  | 23 => rfl
  | 24 => rfl
  | 25 => rfl
  | 26 => rfl
  | 27 => rfl
  | 28 => rfl
  | 29 => rfl
  | 30 => rfl
  | 31 => rfl
  | 32 => rfl
  | 33 => rfl
  | 34 => rfl
  | 35 => rfl
  | 36 => rfl
  | 37 => rfl
  | 38 => rfl
  | 39 => rfl
  | 40 => rfl
  | 41 => rfl
  | 42 => rfl
  | 43 => rfl
  | 44 => rfl
  | 45 => rfl
  | 46 => rfl
  | 47 => rfl
  | 48 => rfl
  | 49 => rfl
  | 50 => rfl
  | 51 => rfl
  | 52 => rfl
  | 53 => rfl
  | 54 => rfl
  | 55 => rfl
  | j + 56 =>
    show (if j + 56 = 13 then _ else _) = _
    rw [if_neg (by omega)]
    rfl
theorem hs_13_1 (IA : Nat → Nat → Int32) (LA : Nat → Nat → Int64) (RA : Nat → Nat → Option Nat) (SC : Nat → Nat → Int32) (dr : Nat) (tl : Nat → va_E) (x : Int32) : va_up (HC IA LA RA SC dr tl) 13 (.inr (1, [.int (SC 13 0), .int x, .int (SC 13 2), .int (SC 13 3), .int (SC 13 4)])) = HC IA LA RA (va_up SC 13 (upd (SC 13) 1 x)) dr tl := by
  funext j
  match j with
  | 0 => rfl
  | 1 => rfl
  | 2 => rfl
  | 3 => rfl
  | 4 => rfl
  | 5 => rfl
  | 6 => rfl
  | 7 => rfl
  | 8 => rfl
  | 9 => rfl
  | 10 => rfl
  | 11 => rfl
  | 12 => rfl
  | 13 => rfl
  | 14 => rfl
  | 15 => rfl
  | 16 => rfl
  | 17 => rfl
  | 18 => rfl
  | 19 => rfl
  | 20 => rfl
  | 21 => rfl
  | 22 => rfl
  | 23 => rfl
  | 24 => rfl
  | 25 => rfl
  | 26 => rfl
  | 27 => rfl
  | 28 => rfl
  | 29 => rfl
  | 30 => rfl
  | 31 => rfl
  | 32 => rfl
  | 33 => rfl
  | 34 => rfl
  | 35 => rfl
  | 36 => rfl
  | 37 => rfl
  | 38 => rfl
  | 39 => rfl
  | 40 => rfl
  | 41 => rfl
  | 42 => rfl
  | 43 => rfl
  | 44 => rfl
  | 45 => rfl
  | 46 => rfl
  | 47 => rfl
  | 48 => rfl
  | 49 => rfl
  | 50 => rfl
  | 51 => rfl
  | 52 => rfl
  | 53 => rfl
  | 54 => rfl
  | 55 => rfl
  | j + 56 =>
    show (if j + 56 = 13 then _ else _) = _
    rw [if_neg (by omega)]
    rfl
theorem hs_13_2 (IA : Nat → Nat → Int32) (LA : Nat → Nat → Int64) (RA : Nat → Nat → Option Nat) (SC : Nat → Nat → Int32) (dr : Nat) (tl : Nat → va_E) (x : Int32) : va_up (HC IA LA RA SC dr tl) 13 (.inr (1, [.int (SC 13 0), .int (SC 13 1), .int x, .int (SC 13 3), .int (SC 13 4)])) = HC IA LA RA (va_up SC 13 (upd (SC 13) 2 x)) dr tl := by
  funext j
  match j with
  | 0 => rfl
  | 1 => rfl
  | 2 => rfl
  | 3 => rfl
  | 4 => rfl
  | 5 => rfl
  | 6 => rfl
  | 7 => rfl
  | 8 => rfl
  | 9 => rfl
  | 10 => rfl
  | 11 => rfl
  | 12 => rfl
  | 13 => rfl
  | 14 => rfl
  | 15 => rfl
  | 16 => rfl
  | 17 => rfl
  | 18 => rfl
  | 19 => rfl
  | 20 => rfl
  | 21 => rfl
  | 22 => rfl
  | 23 => rfl
  | 24 => rfl
  | 25 => rfl
  | 26 => rfl
  | 27 => rfl
  | 28 => rfl
  | 29 => rfl
  | 30 => rfl
  | 31 => rfl
  | 32 => rfl
  | 33 => rfl
  | 34 => rfl
  | 35 => rfl
  | 36 => rfl
  | 37 => rfl
  | 38 => rfl
  | 39 => rfl
  | 40 => rfl
  | 41 => rfl
  | 42 => rfl
  | 43 => rfl
  | 44 => rfl
  | 45 => rfl
  | 46 => rfl
  | 47 => rfl
  | 48 => rfl
  | 49 => rfl
  | 50 => rfl
  | 51 => rfl
  | 52 => rfl
  | 53 => rfl
  | 54 => rfl
  | 55 => rfl
  | j + 56 =>
    show (if j + 56 = 13 then _ else _) = _
    rw [if_neg (by omega)]
    rfl
theorem hs_13_3 (IA : Nat → Nat → Int32) (LA : Nat → Nat → Int64) (RA : Nat → Nat → Option Nat) (SC : Nat → Nat → Int32) (dr : Nat) (tl : Nat → va_E) (x : Int32) : va_up (HC IA LA RA SC dr tl) 13 (.inr (1, [.int (SC 13 0), .int (SC 13 1), .int (SC 13 2), .int x, .int (SC 13 4)])) = HC IA LA RA (va_up SC 13 (upd (SC 13) 3 x)) dr tl := by
  funext j
  match j with
  | 0 => rfl
  | 1 => rfl
  | 2 => rfl
  | 3 => rfl
  | 4 => rfl
  | 5 => rfl
  | 6 => rfl
  | 7 => rfl
  | 8 => rfl
  | 9 => rfl
  | 10 => rfl
  | 11 => rfl
  | 12 => rfl
  | 13 => rfl
  | 14 => rfl
  | 15 => rfl
  | 16 => rfl
  | 17 => rfl
  | 18 => rfl
  | 19 => rfl
  | 20 => rfl
  | 21 => rfl
  | 22 => rfl
  | 23 => rfl
  | 24 => rfl
  | 25 => rfl
  | 26 => rfl
  | 27 => rfl
  | 28 => rfl
  | 29 => rfl
  | 30 => rfl
  | 31 => rfl
  | 32 => rfl
  | 33 => rfl
  | 34 => rfl
  | 35 => rfl
  | 36 => rfl
  | 37 => rfl
  | 38 => rfl
  | 39 => rfl
  | 40 => rfl
  | 41 => rfl
  | 42 => rfl
  | 43 => rfl
  | 44 => rfl
  | 45 => rfl
  | 46 => rfl
  | 47 => rfl
  | 48 => rfl
  | 49 => rfl
  | 50 => rfl
  | 51 => rfl
  | 52 => rfl
  | 53 => rfl
  | 54 => rfl
  | 55 => rfl
  | j + 56 =>
    show (if j + 56 = 13 then _ else _) = _
    rw [if_neg (by omega)]
    rfl
theorem hs_13_4 (IA : Nat → Nat → Int32) (LA : Nat → Nat → Int64) (RA : Nat → Nat → Option Nat) (SC : Nat → Nat → Int32) (dr : Nat) (tl : Nat → va_E) (x : Int32) : va_up (HC IA LA RA SC dr tl) 13 (.inr (1, [.int (SC 13 0), .int (SC 13 1), .int (SC 13 2), .int (SC 13 3), .int x])) = HC IA LA RA (va_up SC 13 (upd (SC 13) 4 x)) dr tl := by
  funext j
  match j with
  | 0 => rfl
  | 1 => rfl
  | 2 => rfl
  | 3 => rfl
  | 4 => rfl
  | 5 => rfl
  | 6 => rfl
  | 7 => rfl
  | 8 => rfl
  | 9 => rfl
  | 10 => rfl
  | 11 => rfl
  | 12 => rfl
  | 13 => rfl
  | 14 => rfl
  | 15 => rfl
  | 16 => rfl
  | 17 => rfl
  | 18 => rfl
  | 19 => rfl
  | 20 => rfl
  | 21 => rfl
  | 22 => rfl
  | 23 => rfl
  | 24 => rfl
  | 25 => rfl
  | 26 => rfl
  | 27 => rfl
  | 28 => rfl
  | 29 => rfl
  | 30 => rfl
  | 31 => rfl
  | 32 => rfl
  | 33 => rfl
  | 34 => rfl
  | 35 => rfl
  | 36 => rfl
  | 37 => rfl
  | 38 => rfl
  | 39 => rfl
  | 40 => rfl
  | 41 => rfl
  | 42 => rfl
  | 43 => rfl
  | 44 => rfl
  | 45 => rfl
  | 46 => rfl
  | 47 => rfl
  | 48 => rfl
  | 49 => rfl
  | 50 => rfl
  | 51 => rfl
  | 52 => rfl
  | 53 => rfl
  | 54 => rfl
  | 55 => rfl
  | j + 56 =>
    show (if j + 56 = 13 then _ else _) = _
    rw [if_neg (by omega)]
    rfl
theorem hs_14_0 (IA : Nat → Nat → Int32) (LA : Nat → Nat → Int64) (RA : Nat → Nat → Option Nat) (SC : Nat → Nat → Int32) (dr : Nat) (tl : Nat → va_E) (x : Int32) : va_up (HC IA LA RA SC dr tl) 14 (.inr (1, [.int x, .int (SC 14 1), .int (SC 14 2), .int (SC 14 3), .int (SC 14 4)])) = HC IA LA RA (va_up SC 14 (upd (SC 14) 0 x)) dr tl := by
  funext j
  match j with
  | 0 => rfl
  | 1 => rfl
  | 2 => rfl
  | 3 => rfl
  | 4 => rfl
  | 5 => rfl
  | 6 => rfl
  | 7 => rfl
  | 8 => rfl
  | 9 => rfl
  | 10 => rfl
  | 11 => rfl
  | 12 => rfl
  | 13 => rfl
  | 14 => rfl
  | 15 => rfl
  | 16 => rfl
  | 17 => rfl
  | 18 => rfl
  | 19 => rfl
  | 20 => rfl
  | 21 => rfl
  | 22 => rfl
  | 23 => rfl
  | 24 => rfl
  | 25 => rfl
  | 26 => rfl
  | 27 => rfl
  | 28 => rfl
  | 29 => rfl
  | 30 => rfl
  | 31 => rfl
  | 32 => rfl
  | 33 => rfl
  | 34 => rfl
  | 35 => rfl
  | 36 => rfl
  | 37 => rfl
  | 38 => rfl
  | 39 => rfl
  | 40 => rfl
  | 41 => rfl
  | 42 => rfl
  | 43 => rfl
  | 44 => rfl
  | 45 => rfl
  | 46 => rfl
  | 47 => rfl
  | 48 => rfl
  | 49 => rfl
  | 50 => rfl
  | 51 => rfl
  | 52 => rfl
  | 53 => rfl
  | 54 => rfl
  | 55 => rfl
  | j + 56 =>
    show (if j + 56 = 14 then _ else _) = _
    rw [if_neg (by omega)]
    rfl
theorem hs_14_1 (IA : Nat → Nat → Int32) (LA : Nat → Nat → Int64) (RA : Nat → Nat → Option Nat) (SC : Nat → Nat → Int32) (dr : Nat) (tl : Nat → va_E) (x : Int32) : va_up (HC IA LA RA SC dr tl) 14 (.inr (1, [.int (SC 14 0), .int x, .int (SC 14 2), .int (SC 14 3), .int (SC 14 4)])) = HC IA LA RA (va_up SC 14 (upd (SC 14) 1 x)) dr tl := by
  funext j
  match j with
  | 0 => rfl
  | 1 => rfl
  | 2 => rfl
  | 3 => rfl
  | 4 => rfl
  | 5 => rfl
  | 6 => rfl
  | 7 => rfl
  | 8 => rfl
  | 9 => rfl
  | 10 => rfl
  | 11 => rfl
  | 12 => rfl
  | 13 => rfl
  | 14 => rfl
  | 15 => rfl
  | 16 => rfl
  | 17 => rfl
  | 18 => rfl
  | 19 => rfl
  | 20 => rfl
  | 21 => rfl
  | 22 => rfl
  | 23 => rfl
  | 24 => rfl
  | 25 => rfl
  | 26 => rfl
  | 27 => rfl
  | 28 => rfl
  | 29 => rfl
  | 30 => rfl
  | 31 => rfl
  | 32 => rfl
  | 33 => rfl
  | 34 => rfl
  | 35 => rfl
  | 36 => rfl
  | 37 => rfl
  | 38 => rfl
  | 39 => rfl
  | 40 => rfl
  | 41 => rfl
  | 42 => rfl
  | 43 => rfl
  | 44 => rfl
  | 45 => rfl
  | 46 => rfl
  | 47 => rfl
  | 48 => rfl
  | 49 => rfl
  | 50 => rfl
  | 51 => rfl
  | 52 => rfl
  | 53 => rfl
  | 54 => rfl
  | 55 => rfl
  | j + 56 =>
    show (if j + 56 = 14 then _ else _) = _
    rw [if_neg (by omega)]
    rfl
theorem hs_14_2 (IA : Nat → Nat → Int32) (LA : Nat → Nat → Int64) (RA : Nat → Nat → Option Nat) (SC : Nat → Nat → Int32) (dr : Nat) (tl : Nat → va_E) (x : Int32) : va_up (HC IA LA RA SC dr tl) 14 (.inr (1, [.int (SC 14 0), .int (SC 14 1), .int x, .int (SC 14 3), .int (SC 14 4)])) = HC IA LA RA (va_up SC 14 (upd (SC 14) 2 x)) dr tl := by
  funext j
  match j with
  | 0 => rfl
  | 1 => rfl
  | 2 => rfl
  | 3 => rfl
  | 4 => rfl
  | 5 => rfl
  | 6 => rfl
  | 7 => rfl
  | 8 => rfl
  | 9 => rfl
  | 10 => rfl
  | 11 => rfl
  | 12 => rfl
  | 13 => rfl
  | 14 => rfl
  | 15 => rfl
  | 16 => rfl
  | 17 => rfl
  | 18 => rfl
  | 19 => rfl
  | 20 => rfl
  | 21 => rfl
  | 22 => rfl
  | 23 => rfl
  | 24 => rfl
  | 25 => rfl
  | 26 => rfl
  | 27 => rfl
  | 28 => rfl
  | 29 => rfl
  | 30 => rfl
  | 31 => rfl
  | 32 => rfl
  | 33 => rfl
  | 34 => rfl
  | 35 => rfl
  | 36 => rfl
  | 37 => rfl
  | 38 => rfl
  | 39 => rfl
  | 40 => rfl
  | 41 => rfl
  | 42 => rfl
  | 43 => rfl
  | 44 => rfl
  | 45 => rfl
  | 46 => rfl
  | 47 => rfl
  | 48 => rfl
  | 49 => rfl
  | 50 => rfl
  | 51 => rfl
  | 52 => rfl
  | 53 => rfl
  | 54 => rfl
  | 55 => rfl
  | j + 56 =>
    show (if j + 56 = 14 then _ else _) = _
    rw [if_neg (by omega)]
    rfl
theorem hs_14_3 (IA : Nat → Nat → Int32) (LA : Nat → Nat → Int64) (RA : Nat → Nat → Option Nat) (SC : Nat → Nat → Int32) (dr : Nat) (tl : Nat → va_E) (x : Int32) : va_up (HC IA LA RA SC dr tl) 14 (.inr (1, [.int (SC 14 0), .int (SC 14 1), .int (SC 14 2), .int x, .int (SC 14 4)])) = HC IA LA RA (va_up SC 14 (upd (SC 14) 3 x)) dr tl := by
  funext j
  match j with
  | 0 => rfl
  | 1 => rfl
  | 2 => rfl
  | 3 => rfl
  | 4 => rfl
  | 5 => rfl
  | 6 => rfl
  | 7 => rfl
  | 8 => rfl
  | 9 => rfl
  | 10 => rfl
  | 11 => rfl
  | 12 => rfl
  | 13 => rfl
  | 14 => rfl
  | 15 => rfl
  | 16 => rfl
  | 17 => rfl
  | 18 => rfl
  | 19 => rfl
  | 20 => rfl
  | 21 => rfl
  | 22 => rfl
  | 23 => rfl
  | 24 => rfl
  | 25 => rfl
  | 26 => rfl
  | 27 => rfl
  | 28 => rfl
  | 29 => rfl
  | 30 => rfl
  | 31 => rfl
  | 32 => rfl
  | 33 => rfl
  | 34 => rfl
  | 35 => rfl
  | 36 => rfl
  | 37 => rfl
  | 38 => rfl
  | 39 => rfl
  | 40 => rfl
  | 41 => rfl
  | 42 => rfl
  | 43 => rfl
  | 44 => rfl
  | 45 => rfl
  | 46 => rfl
  | 47 => rfl
  | 48 => rfl
  | 49 => rfl
  | 50 => rfl
  | 51 => rfl
  | 52 => rfl
  | 53 => rfl
  | 54 => rfl
  | 55 => rfl
  | j + 56 =>
    show (if j + 56 = 14 then _ else _) = _
    rw [if_neg (by omega)]
    rfl
theorem hs_14_4 (IA : Nat → Nat → Int32) (LA : Nat → Nat → Int64) (RA : Nat → Nat → Option Nat) (SC : Nat → Nat → Int32) (dr : Nat) (tl : Nat → va_E) (x : Int32) : va_up (HC IA LA RA SC dr tl) 14 (.inr (1, [.int (SC 14 0), .int (SC 14 1), .int (SC 14 2), .int (SC 14 3), .int x])) = HC IA LA RA (va_up SC 14 (upd (SC 14) 4 x)) dr tl := by
  funext j
  match j with
  | 0 => rfl
  | 1 => rfl
  | 2 => rfl
  | 3 => rfl
  | 4 => rfl
  | 5 => rfl
  | 6 => rfl
  | 7 => rfl
  | 8 => rfl
  | 9 => rfl
  | 10 => rfl
  | 11 => rfl
  | 12 => rfl
  | 13 => rfl
  | 14 => rfl
  | 15 => rfl
  | 16 => rfl
  | 17 => rfl
  | 18 => rfl
  | 19 => rfl
  | 20 => rfl
  | 21 => rfl
  | 22 => rfl
  | 23 => rfl
  | 24 => rfl
  | 25 => rfl
  | 26 => rfl
  | 27 => rfl
  | 28 => rfl
  | 29 => rfl
  | 30 => rfl
  | 31 => rfl
  | 32 => rfl
  | 33 => rfl
  | 34 => rfl
  | 35 => rfl
  | 36 => rfl
  | 37 => rfl
  | 38 => rfl
  | 39 => rfl
  | 40 => rfl
  | 41 => rfl
  | 42 => rfl
  | 43 => rfl
  | 44 => rfl
  | 45 => rfl
  | 46 => rfl
  | 47 => rfl
  | 48 => rfl
  | 49 => rfl
  | 50 => rfl
  | 51 => rfl
  | 52 => rfl
  | 53 => rfl
  | 54 => rfl
  | 55 => rfl
  | j + 56 =>
    show (if j + 56 = 14 then _ else _) = _
    rw [if_neg (by omega)]
    rfl
theorem hs_15_0 (IA : Nat → Nat → Int32) (LA : Nat → Nat → Int64) (RA : Nat → Nat → Option Nat) (SC : Nat → Nat → Int32) (dr : Nat) (tl : Nat → va_E) (x : Int32) : va_up (HC IA LA RA SC dr tl) 15 (.inr (1, [.int x, .int (SC 15 1), .int (SC 15 2), .int (SC 15 3), .int (SC 15 4)])) = HC IA LA RA (va_up SC 15 (upd (SC 15) 0 x)) dr tl := by
  funext j
  match j with
  | 0 => rfl
  | 1 => rfl
  | 2 => rfl
  | 3 => rfl
  | 4 => rfl
  | 5 => rfl
  | 6 => rfl
  | 7 => rfl
  | 8 => rfl
  | 9 => rfl
  | 10 => rfl
  | 11 => rfl
  | 12 => rfl
  | 13 => rfl
  | 14 => rfl
  | 15 => rfl
  | 16 => rfl
  | 17 => rfl
  | 18 => rfl
  | 19 => rfl
  | 20 => rfl
  | 21 => rfl
  | 22 => rfl
  | 23 => rfl
  | 24 => rfl
  | 25 => rfl
  | 26 => rfl
  | 27 => rfl
  | 28 => rfl
  | 29 => rfl
  | 30 => rfl
  | 31 => rfl
  | 32 => rfl
  | 33 => rfl
  | 34 => rfl
  | 35 => rfl
  | 36 => rfl
  | 37 => rfl
  | 38 => rfl
  | 39 => rfl
  | 40 => rfl
  | 41 => rfl
  | 42 => rfl
  | 43 => rfl
  | 44 => rfl
  | 45 => rfl
  | 46 => rfl
  | 47 => rfl
  | 48 => rfl
  | 49 => rfl
  | 50 => rfl
  | 51 => rfl
  | 52 => rfl
  | 53 => rfl
  | 54 => rfl
  | 55 => rfl
  | j + 56 =>
    show (if j + 56 = 15 then _ else _) = _
    rw [if_neg (by omega)]
    rfl
theorem hs_15_1 (IA : Nat → Nat → Int32) (LA : Nat → Nat → Int64) (RA : Nat → Nat → Option Nat) (SC : Nat → Nat → Int32) (dr : Nat) (tl : Nat → va_E) (x : Int32) : va_up (HC IA LA RA SC dr tl) 15 (.inr (1, [.int (SC 15 0), .int x, .int (SC 15 2), .int (SC 15 3), .int (SC 15 4)])) = HC IA LA RA (va_up SC 15 (upd (SC 15) 1 x)) dr tl := by
  funext j
  match j with
  | 0 => rfl
  | 1 => rfl
  | 2 => rfl
  | 3 => rfl
  | 4 => rfl
  | 5 => rfl
  | 6 => rfl
  | 7 => rfl
  | 8 => rfl
  | 9 => rfl
  | 10 => rfl
  | 11 => rfl
  | 12 => rfl
  | 13 => rfl
  | 14 => rfl
  | 15 => rfl
  | 16 => rfl
  | 17 => rfl
  | 18 => rfl
  | 19 => rfl
  | 20 => rfl
  | 21 => rfl
  | 22 => rfl
  | 23 => rfl
  | 24 => rfl
  | 25 => rfl
  | 26 => rfl
  | 27 => rfl
  | 28 => rfl
  | 29 => rfl
  | 30 => rfl
  | 31 => rfl
  | 32 => rfl
  | 33 => rfl
  | 34 => rfl
  | 35 => rfl
  | 36 => rfl
  | 37 => rfl
  | 38 => rfl
  | 39 => rfl
  | 40 => rfl
  | 41 => rfl
  | 42 => rfl
  | 43 => rfl
  | 44 => rfl
  | 45 => rfl
  | 46 => rfl
  | 47 => rfl
  | 48 => rfl
  | 49 => rfl
  | 50 => rfl
  | 51 => rfl
  | 52 => rfl
  | 53 => rfl
  | 54 => rfl
  | 55 => rfl
  | j + 56 =>
    show (if j + 56 = 15 then _ else _) = _
    rw [if_neg (by omega)]
    rfl
theorem hs_15_2 (IA : Nat → Nat → Int32) (LA : Nat → Nat → Int64) (RA : Nat → Nat → Option Nat) (SC : Nat → Nat → Int32) (dr : Nat) (tl : Nat → va_E) (x : Int32) : va_up (HC IA LA RA SC dr tl) 15 (.inr (1, [.int (SC 15 0), .int (SC 15 1), .int x, .int (SC 15 3), .int (SC 15 4)])) = HC IA LA RA (va_up SC 15 (upd (SC 15) 2 x)) dr tl := by
  funext j
  match j with
  | 0 => rfl
  | 1 => rfl
  | 2 => rfl
  | 3 => rfl
  | 4 => rfl
  | 5 => rfl
  | 6 => rfl
  | 7 => rfl
  | 8 => rfl
  | 9 => rfl
  | 10 => rfl
  | 11 => rfl
  | 12 => rfl
  | 13 => rfl
  | 14 => rfl
  | 15 => rfl
  | 16 => rfl
  | 17 => rfl
  | 18 => rfl
  | 19 => rfl
  | 20 => rfl
  | 21 => rfl
  | 22 => rfl
  | 23 => rfl
  | 24 => rfl
  | 25 => rfl
  | 26 => rfl
  | 27 => rfl
  | 28 => rfl
  | 29 => rfl
  | 30 => rfl
  | 31 => rfl
  | 32 => rfl
  | 33 => rfl
  | 34 => rfl
  | 35 => rfl
  | 36 => rfl
  | 37 => rfl
  | 38 => rfl
  | 39 => rfl
  | 40 => rfl
  | 41 => rfl
  | 42 => rfl
  | 43 => rfl
  | 44 => rfl
  | 45 => rfl
  | 46 => rfl
  | 47 => rfl
  | 48 => rfl
  | 49 => rfl
  | 50 => rfl
  | 51 => rfl
  | 52 => rfl
  | 53 => rfl
  | 54 => rfl
  | 55 => rfl
  | j + 56 =>
    show (if j + 56 = 15 then _ else _) = _
    rw [if_neg (by omega)]
    rfl
theorem hs_15_3 (IA : Nat → Nat → Int32) (LA : Nat → Nat → Int64) (RA : Nat → Nat → Option Nat) (SC : Nat → Nat → Int32) (dr : Nat) (tl : Nat → va_E) (x : Int32) : va_up (HC IA LA RA SC dr tl) 15 (.inr (1, [.int (SC 15 0), .int (SC 15 1), .int (SC 15 2), .int x, .int (SC 15 4)])) = HC IA LA RA (va_up SC 15 (upd (SC 15) 3 x)) dr tl := by
  funext j
  match j with
  | 0 => rfl
  | 1 => rfl
  | 2 => rfl
  | 3 => rfl
  | 4 => rfl
  | 5 => rfl
  | 6 => rfl
  | 7 => rfl
  | 8 => rfl
  | 9 => rfl
  | 10 => rfl
  | 11 => rfl
  | 12 => rfl
  | 13 => rfl
  | 14 => rfl
  | 15 => rfl
  | 16 => rfl
  | 17 => rfl
  | 18 => rfl
  | 19 => rfl
  | 20 => rfl
  | 21 => rfl
  | 22 => rfl
  | 23 => rfl
  | 24 => rfl
  | 25 => rfl
  | 26 => rfl
  | 27 => rfl
  | 28 => rfl
  | 29 => rfl
  | 30 => rfl
  | 31 => rfl
  | 32 => rfl
  | 33 => rfl
  | 34 => rfl
  | 35 => rfl
  | 36 => rfl
  | 37 => rfl
  | 38 => rfl
  | 39 => rfl
  | 40 => rfl
  | 41 => rfl
  | 42 => rfl
  | 43 => rfl
  | 44 => rfl
  | 45 => rfl
  | 46 => rfl
  | 47 => rfl
  | 48 => rfl
  | 49 => rfl
  | 50 => rfl
  | 51 => rfl
  | 52 => rfl
  | 53 => rfl
  | 54 => rfl
  | 55 => rfl
  | j + 56 =>
    show (if j + 56 = 15 then _ else _) = _
    rw [if_neg (by omega)]
    rfl
theorem hs_15_4 (IA : Nat → Nat → Int32) (LA : Nat → Nat → Int64) (RA : Nat → Nat → Option Nat) (SC : Nat → Nat → Int32) (dr : Nat) (tl : Nat → va_E) (x : Int32) : va_up (HC IA LA RA SC dr tl) 15 (.inr (1, [.int (SC 15 0), .int (SC 15 1), .int (SC 15 2), .int (SC 15 3), .int x])) = HC IA LA RA (va_up SC 15 (upd (SC 15) 4 x)) dr tl := by
  funext j
  match j with
  | 0 => rfl
  | 1 => rfl
  | 2 => rfl
  | 3 => rfl
  | 4 => rfl
  | 5 => rfl
  | 6 => rfl
  | 7 => rfl
  | 8 => rfl
  | 9 => rfl
  | 10 => rfl
  | 11 => rfl
  | 12 => rfl
  | 13 => rfl
  | 14 => rfl
  | 15 => rfl
  | 16 => rfl
  | 17 => rfl
  | 18 => rfl
  | 19 => rfl
  | 20 => rfl
  | 21 => rfl
  | 22 => rfl
  | 23 => rfl
  | 24 => rfl
  | 25 => rfl
  | 26 => rfl
  | 27 => rfl
  | 28 => rfl
  | 29 => rfl
  | 30 => rfl
  | 31 => rfl
  | 32 => rfl
  | 33 => rfl
  | 34 => rfl
  | 35 => rfl
  | 36 => rfl
  | 37 => rfl
  | 38 => rfl
  | 39 => rfl
  | 40 => rfl
  | 41 => rfl
  | 42 => rfl
  | 43 => rfl
  | 44 => rfl
  | 45 => rfl
  | 46 => rfl
  | 47 => rfl
  | 48 => rfl
  | 49 => rfl
  | 50 => rfl
  | 51 => rfl
  | 52 => rfl
  | 53 => rfl
  | 54 => rfl
  | 55 => rfl
  | j + 56 =>
    show (if j + 56 = 15 then _ else _) = _
    rw [if_neg (by omega)]
    rfl
theorem hs_20_2 (IA : Nat → Nat → Int32) (LA : Nat → Nat → Int64) (RA : Nat → Nat → Option Nat) (SC : Nat → Nat → Int32) (dr : Nat) (tl : Nat → va_E) (x : Int32) : va_up (HC IA LA RA SC dr tl) 20 (.inr (5, [.ref 21, .ref 33, .int x, .int (SC 20 3), .int (SC 20 4), .ref 34, .ref 35, .int (SC 20 7)])) = HC IA LA RA (va_up SC 20 (upd (SC 20) 2 x)) dr tl := by
  funext j
  match j with
  | 0 => rfl
  | 1 => rfl
  | 2 => rfl
  | 3 => rfl
  | 4 => rfl
  | 5 => rfl
  | 6 => rfl
  | 7 => rfl
  | 8 => rfl
  | 9 => rfl
  | 10 => rfl
  | 11 => rfl
  | 12 => rfl
  | 13 => rfl
  | 14 => rfl
  | 15 => rfl
  | 16 => rfl
  | 17 => rfl
  | 18 => rfl
  | 19 => rfl
  | 20 => rfl
  | 21 => rfl
  | 22 => rfl
  | 23 => rfl
  | 24 => rfl
  | 25 => rfl
  | 26 => rfl
  | 27 => rfl
  | 28 => rfl
  | 29 => rfl
  | 30 => rfl
  | 31 => rfl
  | 32 => rfl
  | 33 => rfl
  | 34 => rfl
  | 35 => rfl
  | 36 => rfl
  | 37 => rfl
  | 38 => rfl
  | 39 => rfl
  | 40 => rfl
  | 41 => rfl
  | 42 => rfl
  | 43 => rfl
  | 44 => rfl
  | 45 => rfl
  | 46 => rfl
  | 47 => rfl
  | 48 => rfl
  | 49 => rfl
  | 50 => rfl
  | 51 => rfl
  | 52 => rfl
  | 53 => rfl
  | 54 => rfl
  | 55 => rfl
  | j + 56 =>
    show (if j + 56 = 20 then _ else _) = _
    rw [if_neg (by omega)]
    rfl
theorem hs_20_3 (IA : Nat → Nat → Int32) (LA : Nat → Nat → Int64) (RA : Nat → Nat → Option Nat) (SC : Nat → Nat → Int32) (dr : Nat) (tl : Nat → va_E) (x : Int32) : va_up (HC IA LA RA SC dr tl) 20 (.inr (5, [.ref 21, .ref 33, .int (SC 20 2), .int x, .int (SC 20 4), .ref 34, .ref 35, .int (SC 20 7)])) = HC IA LA RA (va_up SC 20 (upd (SC 20) 3 x)) dr tl := by
  funext j
  match j with
  | 0 => rfl
  | 1 => rfl
  | 2 => rfl
  | 3 => rfl
  | 4 => rfl
  | 5 => rfl
  | 6 => rfl
  | 7 => rfl
  | 8 => rfl
  | 9 => rfl
  | 10 => rfl
  | 11 => rfl
  | 12 => rfl
  | 13 => rfl
  | 14 => rfl
  | 15 => rfl
  | 16 => rfl
  | 17 => rfl
  | 18 => rfl
  | 19 => rfl
  | 20 => rfl
  | 21 => rfl
  | 22 => rfl
  | 23 => rfl
  | 24 => rfl
  | 25 => rfl
  | 26 => rfl
  | 27 => rfl
  | 28 => rfl
  | 29 => rfl
  | 30 => rfl
  | 31 => rfl
  | 32 => rfl
  | 33 => rfl
  | 34 => rfl
  | 35 => rfl
  | 36 => rfl
  | 37 => rfl
  | 38 => rfl
  | 39 => rfl
  | 40 => rfl
  | 41 => rfl
  | 42 => rfl
  | 43 => rfl
  | 44 => rfl
  | 45 => rfl
  | 46 => rfl
  | 47 => rfl
  | 48 => rfl
  | 49 => rfl
  | 50 => rfl
  | 51 => rfl
  | 52 => rfl
  | 53 => rfl
  | 54 => rfl
  | 55 => rfl
  | j + 56 =>
    show (if j + 56 = 20 then _ else _) = _
    rw [if_neg (by omega)]
    rfl
theorem hs_20_4 (IA : Nat → Nat → Int32) (LA : Nat → Nat → Int64) (RA : Nat → Nat → Option Nat) (SC : Nat → Nat → Int32) (dr : Nat) (tl : Nat → va_E) (x : Int32) : va_up (HC IA LA RA SC dr tl) 20 (.inr (5, [.ref 21, .ref 33, .int (SC 20 2), .int (SC 20 3), .int x, .ref 34, .ref 35, .int (SC 20 7)])) = HC IA LA RA (va_up SC 20 (upd (SC 20) 4 x)) dr tl := by
  funext j
  match j with
  | 0 => rfl
  | 1 => rfl
  | 2 => rfl
  | 3 => rfl
  | 4 => rfl
  | 5 => rfl
  | 6 => rfl
  | 7 => rfl
  | 8 => rfl
  | 9 => rfl
  | 10 => rfl
  | 11 => rfl
  | 12 => rfl
  | 13 => rfl
  | 14 => rfl
  | 15 => rfl
  | 16 => rfl
  | 17 => rfl
  | 18 => rfl
  | 19 => rfl
  | 20 => rfl
  | 21 => rfl
  | 22 => rfl
  | 23 => rfl
  | 24 => rfl
  | 25 => rfl
  | 26 => rfl
  | 27 => rfl
  | 28 => rfl
  | 29 => rfl
  | 30 => rfl
  | 31 => rfl
  | 32 => rfl
  | 33 => rfl
  | 34 => rfl
  | 35 => rfl
  | 36 => rfl
  | 37 => rfl
  | 38 => rfl
  | 39 => rfl
  | 40 => rfl
  | 41 => rfl
  | 42 => rfl
  | 43 => rfl
  | 44 => rfl
  | 45 => rfl
  | 46 => rfl
  | 47 => rfl
  | 48 => rfl
  | 49 => rfl
  | 50 => rfl
  | 51 => rfl
  | 52 => rfl
  | 53 => rfl
  | 54 => rfl
  | 55 => rfl
  | j + 56 =>
    show (if j + 56 = 20 then _ else _) = _
    rw [if_neg (by omega)]
    rfl
theorem hs_20_7 (IA : Nat → Nat → Int32) (LA : Nat → Nat → Int64) (RA : Nat → Nat → Option Nat) (SC : Nat → Nat → Int32) (dr : Nat) (tl : Nat → va_E) (x : Int32) : va_up (HC IA LA RA SC dr tl) 20 (.inr (5, [.ref 21, .ref 33, .int (SC 20 2), .int (SC 20 3), .int (SC 20 4), .ref 34, .ref 35, .int x])) = HC IA LA RA (va_up SC 20 (upd (SC 20) 7 x)) dr tl := by
  funext j
  match j with
  | 0 => rfl
  | 1 => rfl
  | 2 => rfl
  | 3 => rfl
  | 4 => rfl
  | 5 => rfl
  | 6 => rfl
  | 7 => rfl
  | 8 => rfl
  | 9 => rfl
  | 10 => rfl
  | 11 => rfl
  | 12 => rfl
  | 13 => rfl
  | 14 => rfl
  | 15 => rfl
  | 16 => rfl
  | 17 => rfl
  | 18 => rfl
  | 19 => rfl
  | 20 => rfl
  | 21 => rfl
  | 22 => rfl
  | 23 => rfl
  | 24 => rfl
  | 25 => rfl
  | 26 => rfl
  | 27 => rfl
  | 28 => rfl
  | 29 => rfl
  | 30 => rfl
  | 31 => rfl
  | 32 => rfl
  | 33 => rfl
  | 34 => rfl
  | 35 => rfl
  | 36 => rfl
  | 37 => rfl
  | 38 => rfl
  | 39 => rfl
  | 40 => rfl
  | 41 => rfl
  | 42 => rfl
  | 43 => rfl
  | 44 => rfl
  | 45 => rfl
  | 46 => rfl
  | 47 => rfl
  | 48 => rfl
  | 49 => rfl
  | 50 => rfl
  | 51 => rfl
  | 52 => rfl
  | 53 => rfl
  | 54 => rfl
  | 55 => rfl
  | j + 56 =>
    show (if j + 56 = 20 then _ else _) = _
    rw [if_neg (by omega)]
    rfl
theorem hs_21_2 (IA : Nat → Nat → Int32) (LA : Nat → Nat → Int64) (RA : Nat → Nat → Option Nat) (SC : Nat → Nat → Int32) (dr : Nat) (tl : Nat → va_E) (x : Int32) : va_up (HC IA LA RA SC dr tl) 21 (.inr (4, [.ref 22, .ref 23, .int x])) = HC IA LA RA (va_up SC 21 (upd (SC 21) 2 x)) dr tl := by
  funext j
  match j with
  | 0 => rfl
  | 1 => rfl
  | 2 => rfl
  | 3 => rfl
  | 4 => rfl
  | 5 => rfl
  | 6 => rfl
  | 7 => rfl
  | 8 => rfl
  | 9 => rfl
  | 10 => rfl
  | 11 => rfl
  | 12 => rfl
  | 13 => rfl
  | 14 => rfl
  | 15 => rfl
  | 16 => rfl
  | 17 => rfl
  | 18 => rfl
  | 19 => rfl
  | 20 => rfl
  | 21 => rfl
  | 22 => rfl
  | 23 => rfl
  | 24 => rfl
  | 25 => rfl
  | 26 => rfl
  | 27 => rfl
  | 28 => rfl
  | 29 => rfl
  | 30 => rfl
  | 31 => rfl
  | 32 => rfl
  | 33 => rfl
  | 34 => rfl
  | 35 => rfl
  | 36 => rfl
  | 37 => rfl
  | 38 => rfl
  | 39 => rfl
  | 40 => rfl
  | 41 => rfl
  | 42 => rfl
  | 43 => rfl
  | 44 => rfl
  | 45 => rfl
  | 46 => rfl
  | 47 => rfl
  | 48 => rfl
  | 49 => rfl
  | 50 => rfl
  | 51 => rfl
  | 52 => rfl
  | 53 => rfl
  | 54 => rfl
  | 55 => rfl
  | j + 56 =>
    show (if j + 56 = 21 then _ else _) = _
    rw [if_neg (by omega)]
    rfl
theorem hs_26_0 (IA : Nat → Nat → Int32) (LA : Nat → Nat → Int64) (RA : Nat → Nat → Option Nat) (SC : Nat → Nat → Int32) (dr : Nat) (tl : Nat → va_E) (x : Int32) : va_up (HC IA LA RA SC dr tl) 26 (.inr (1, [.int x, .int (SC 26 1), .int (SC 26 2), .int (SC 26 3), .int (SC 26 4)])) = HC IA LA RA (va_up SC 26 (upd (SC 26) 0 x)) dr tl := by
  funext j
  match j with
  | 0 => rfl
  | 1 => rfl
  | 2 => rfl
  | 3 => rfl
  | 4 => rfl
  | 5 => rfl
  | 6 => rfl
  | 7 => rfl
  | 8 => rfl
  | 9 => rfl
  | 10 => rfl
  | 11 => rfl
  | 12 => rfl
  | 13 => rfl
  | 14 => rfl
  | 15 => rfl
  | 16 => rfl
  | 17 => rfl
  | 18 => rfl
  | 19 => rfl
  | 20 => rfl
  | 21 => rfl
  | 22 => rfl
  | 23 => rfl
  | 24 => rfl
  | 25 => rfl
  | 26 => rfl
  | 27 => rfl
  | 28 => rfl
  | 29 => rfl
  | 30 => rfl
  | 31 => rfl
  | 32 => rfl
  | 33 => rfl
  | 34 => rfl
  | 35 => rfl
  | 36 => rfl
  | 37 => rfl
  | 38 => rfl
  | 39 => rfl
  | 40 => rfl
  | 41 => rfl
  | 42 => rfl
  | 43 => rfl
  | 44 => rfl
  | 45 => rfl
  | 46 => rfl
  | 47 => rfl
  | 48 => rfl
  | 49 => rfl
  | 50 => rfl
  | 51 => rfl
  | 52 => rfl
  | 53 => rfl
  | 54 => rfl
  | 55 => rfl
  | j + 56 =>
    show (if j + 56 = 26 then _ else _) = _
    rw [if_neg (by omega)]
    rfl
theorem hs_26_1 (IA : Nat → Nat → Int32) (LA : Nat → Nat → Int64) (RA : Nat → Nat → Option Nat) (SC : Nat → Nat → Int32) (dr : Nat) (tl : Nat → va_E) (x : Int32) : va_up (HC IA LA RA SC dr tl) 26 (.inr (1, [.int (SC 26 0), .int x, .int (SC 26 2), .int (SC 26 3), .int (SC 26 4)])) = HC IA LA RA (va_up SC 26 (upd (SC 26) 1 x)) dr tl := by
  funext j
  match j with
  | 0 => rfl
  | 1 => rfl
  | 2 => rfl
  | 3 => rfl
  | 4 => rfl
  | 5 => rfl
  | 6 => rfl
  | 7 => rfl
  | 8 => rfl
  | 9 => rfl
  | 10 => rfl
  | 11 => rfl
  | 12 => rfl
  | 13 => rfl
  | 14 => rfl
  | 15 => rfl
  | 16 => rfl
  | 17 => rfl
  | 18 => rfl
  | 19 => rfl
  | 20 => rfl
  | 21 => rfl
  | 22 => rfl
  | 23 => rfl
  | 24 => rfl
  | 25 => rfl
  | 26 => rfl
  | 27 => rfl
  | 28 => rfl
  | 29 => rfl
  | 30 => rfl
  | 31 => rfl
  | 32 => rfl
  | 33 => rfl
  | 34 => rfl
  | 35 => rfl
  | 36 => rfl
  | 37 => rfl
  | 38 => rfl
  | 39 => rfl
  | 40 => rfl
  | 41 => rfl
  | 42 => rfl
  | 43 => rfl
  | 44 => rfl
  | 45 => rfl
  | 46 => rfl
  | 47 => rfl
  | 48 => rfl
  | 49 => rfl
  | 50 => rfl
  | 51 => rfl
  | 52 => rfl
  | 53 => rfl
  | 54 => rfl
  | 55 => rfl
  | j + 56 =>
    show (if j + 56 = 26 then _ else _) = _
    rw [if_neg (by omega)]
    rfl
theorem hs_26_2 (IA : Nat → Nat → Int32) (LA : Nat → Nat → Int64) (RA : Nat → Nat → Option Nat) (SC : Nat → Nat → Int32) (dr : Nat) (tl : Nat → va_E) (x : Int32) : va_up (HC IA LA RA SC dr tl) 26 (.inr (1, [.int (SC 26 0), .int (SC 26 1), .int x, .int (SC 26 3), .int (SC 26 4)])) = HC IA LA RA (va_up SC 26 (upd (SC 26) 2 x)) dr tl := by
  funext j
  match j with
  | 0 => rfl
  | 1 => rfl
  | 2 => rfl
  | 3 => rfl
  | 4 => rfl
  | 5 => rfl
  | 6 => rfl
  | 7 => rfl
  | 8 => rfl
  | 9 => rfl
  | 10 => rfl
  | 11 => rfl
  | 12 => rfl
  | 13 => rfl
  | 14 => rfl
  | 15 => rfl
  | 16 => rfl
  | 17 => rfl
  | 18 => rfl
  | 19 => rfl
  | 20 => rfl
  | 21 => rfl
  | 22 => rfl
  | 23 => rfl
  | 24 => rfl
  | 25 => rfl
  | 26 => rfl
  | 27 => rfl
  | 28 => rfl
  | 29 => rfl
  | 30 => rfl
  | 31 => rfl
  | 32 => rfl
  | 33 => rfl
  | 34 => rfl
  | 35 => rfl
  | 36 => rfl
  | 37 => rfl
  | 38 => rfl
  | 39 => rfl
  | 40 => rfl
  | 41 => rfl
  | 42 => rfl
  | 43 => rfl
  | 44 => rfl
  | 45 => rfl
  | 46 => rfl
  | 47 => rfl
  | 48 => rfl
  | 49 => rfl
  | 50 => rfl
  | 51 => rfl
  | 52 => rfl
  | 53 => rfl
  | 54 => rfl
  | 55 => rfl
  | j + 56 =>
    show (if j + 56 = 26 then _ else _) = _
    rw [if_neg (by omega)]
    rfl
theorem hs_26_3 (IA : Nat → Nat → Int32) (LA : Nat → Nat → Int64) (RA : Nat → Nat → Option Nat) (SC : Nat → Nat → Int32) (dr : Nat) (tl : Nat → va_E) (x : Int32) : va_up (HC IA LA RA SC dr tl) 26 (.inr (1, [.int (SC 26 0), .int (SC 26 1), .int (SC 26 2), .int x, .int (SC 26 4)])) = HC IA LA RA (va_up SC 26 (upd (SC 26) 3 x)) dr tl := by
  funext j
  match j with
  | 0 => rfl
  | 1 => rfl
  | 2 => rfl
  | 3 => rfl
  | 4 => rfl
  | 5 => rfl
  | 6 => rfl
  | 7 => rfl
  | 8 => rfl
  | 9 => rfl
  | 10 => rfl
  | 11 => rfl
  | 12 => rfl
  | 13 => rfl
  | 14 => rfl
  | 15 => rfl
  | 16 => rfl
  | 17 => rfl
  | 18 => rfl
  | 19 => rfl
  | 20 => rfl
  | 21 => rfl
  | 22 => rfl
  | 23 => rfl
  | 24 => rfl
  | 25 => rfl
  | 26 => rfl
  | 27 => rfl
  | 28 => rfl
  | 29 => rfl
  | 30 => rfl
  | 31 => rfl
  | 32 => rfl
  | 33 => rfl
  | 34 => rfl
  | 35 => rfl
  | 36 => rfl
  | 37 => rfl
  | 38 => rfl
  | 39 => rfl
  | 40 => rfl
  | 41 => rfl
  | 42 => rfl
  | 43 => rfl
  | 44 => rfl
  | 45 => rfl
  | 46 => rfl
  | 47 => rfl
  | 48 => rfl
  | 49 => rfl
  | 50 => rfl
  | 51 => rfl
  | 52 => rfl
  | 53 => rfl
  | 54 => rfl
  | 55 => rfl
  | j + 56 =>
    show (if j + 56 = 26 then _ else _) = _
    rw [if_neg (by omega)]
    rfl
theorem hs_26_4 (IA : Nat → Nat → Int32) (LA : Nat → Nat → Int64) (RA : Nat → Nat → Option Nat) (SC : Nat → Nat → Int32) (dr : Nat) (tl : Nat → va_E) (x : Int32) : va_up (HC IA LA RA SC dr tl) 26 (.inr (1, [.int (SC 26 0), .int (SC 26 1), .int (SC 26 2), .int (SC 26 3), .int x])) = HC IA LA RA (va_up SC 26 (upd (SC 26) 4 x)) dr tl := by
  funext j
  match j with
  | 0 => rfl
  | 1 => rfl
  | 2 => rfl
  | 3 => rfl
  | 4 => rfl
  | 5 => rfl
  | 6 => rfl
  | 7 => rfl
  | 8 => rfl
  | 9 => rfl
  | 10 => rfl
  | 11 => rfl
  | 12 => rfl
  | 13 => rfl
  | 14 => rfl
  | 15 => rfl
  | 16 => rfl
  | 17 => rfl
  | 18 => rfl
  | 19 => rfl
  | 20 => rfl
  | 21 => rfl
  | 22 => rfl
  | 23 => rfl
  | 24 => rfl
  | 25 => rfl
  | 26 => rfl
  | 27 => rfl
  | 28 => rfl
  | 29 => rfl
  | 30 => rfl
  | 31 => rfl
  | 32 => rfl
  | 33 => rfl
  | 34 => rfl
  | 35 => rfl
  | 36 => rfl
  | 37 => rfl
  | 38 => rfl
  | 39 => rfl
  | 40 => rfl
  | 41 => rfl
  | 42 => rfl
  | 43 => rfl
  | 44 => rfl
  | 45 => rfl
  | 46 => rfl
  | 47 => rfl
  | 48 => rfl
  | 49 => rfl
  | 50 => rfl
  | 51 => rfl
  | 52 => rfl
  | 53 => rfl
  | 54 => rfl
  | 55 => rfl
  | j + 56 =>
    show (if j + 56 = 26 then _ else _) = _
    rw [if_neg (by omega)]
    rfl
theorem hs_27_0 (IA : Nat → Nat → Int32) (LA : Nat → Nat → Int64) (RA : Nat → Nat → Option Nat) (SC : Nat → Nat → Int32) (dr : Nat) (tl : Nat → va_E) (x : Int32) : va_up (HC IA LA RA SC dr tl) 27 (.inr (1, [.int x, .int (SC 27 1), .int (SC 27 2), .int (SC 27 3), .int (SC 27 4)])) = HC IA LA RA (va_up SC 27 (upd (SC 27) 0 x)) dr tl := by
  funext j
  match j with
  | 0 => rfl
  | 1 => rfl
  | 2 => rfl
  | 3 => rfl
  | 4 => rfl
  | 5 => rfl
  | 6 => rfl
  | 7 => rfl
  | 8 => rfl
  | 9 => rfl
  | 10 => rfl
  | 11 => rfl
  | 12 => rfl
  | 13 => rfl
  | 14 => rfl
  | 15 => rfl
  | 16 => rfl
  | 17 => rfl
  | 18 => rfl
  | 19 => rfl
  | 20 => rfl
  | 21 => rfl
  | 22 => rfl
  | 23 => rfl
  | 24 => rfl
  | 25 => rfl
  | 26 => rfl
  | 27 => rfl
  | 28 => rfl
  | 29 => rfl
  | 30 => rfl
  | 31 => rfl
  | 32 => rfl
  | 33 => rfl
  | 34 => rfl
  | 35 => rfl
  | 36 => rfl
  | 37 => rfl
  | 38 => rfl
  | 39 => rfl
  | 40 => rfl
  | 41 => rfl
  | 42 => rfl
  | 43 => rfl
  | 44 => rfl
  | 45 => rfl
  | 46 => rfl
  | 47 => rfl
  | 48 => rfl
  | 49 => rfl
  | 50 => rfl
  | 51 => rfl
  | 52 => rfl
  | 53 => rfl
  | 54 => rfl
  | 55 => rfl
  | j + 56 =>
    show (if j + 56 = 27 then _ else _) = _
    rw [if_neg (by omega)]
    rfl
theorem hs_27_1 (IA : Nat → Nat → Int32) (LA : Nat → Nat → Int64) (RA : Nat → Nat → Option Nat) (SC : Nat → Nat → Int32) (dr : Nat) (tl : Nat → va_E) (x : Int32) : va_up (HC IA LA RA SC dr tl) 27 (.inr (1, [.int (SC 27 0), .int x, .int (SC 27 2), .int (SC 27 3), .int (SC 27 4)])) = HC IA LA RA (va_up SC 27 (upd (SC 27) 1 x)) dr tl := by
  funext j
  match j with
  | 0 => rfl
  | 1 => rfl
  | 2 => rfl
  | 3 => rfl
  | 4 => rfl
  | 5 => rfl
  | 6 => rfl
  | 7 => rfl
  | 8 => rfl
  | 9 => rfl
  | 10 => rfl
  | 11 => rfl
  | 12 => rfl
  | 13 => rfl
  | 14 => rfl
  | 15 => rfl
  | 16 => rfl
  | 17 => rfl
  | 18 => rfl
  | 19 => rfl
  | 20 => rfl
  | 21 => rfl
  | 22 => rfl
  | 23 => rfl
  | 24 => rfl
  | 25 => rfl
  | 26 => rfl
  | 27 => rfl
  | 28 => rfl
  | 29 => rfl
  | 30 => rfl
  | 31 => rfl
  | 32 => rfl
  | 33 => rfl
  | 34 => rfl
  | 35 => rfl
  | 36 => rfl
  | 37 => rfl
  | 38 => rfl
  | 39 => rfl
  | 40 => rfl
  | 41 => rfl
  | 42 => rfl
  | 43 => rfl
  | 44 => rfl
  | 45 => rfl
  | 46 => rfl
  | 47 => rfl
  | 48 => rfl
  | 49 => rfl
  | 50 => rfl
  | 51 => rfl
  | 52 => rfl
  | 53 => rfl
  | 54 => rfl
  | 55 => rfl
  | j + 56 =>
    show (if j + 56 = 27 then _ else _) = _
    rw [if_neg (by omega)]
    rfl
theorem hs_27_2 (IA : Nat → Nat → Int32) (LA : Nat → Nat → Int64) (RA : Nat → Nat → Option Nat) (SC : Nat → Nat → Int32) (dr : Nat) (tl : Nat → va_E) (x : Int32) : va_up (HC IA LA RA SC dr tl) 27 (.inr (1, [.int (SC 27 0), .int (SC 27 1), .int x, .int (SC 27 3), .int (SC 27 4)])) = HC IA LA RA (va_up SC 27 (upd (SC 27) 2 x)) dr tl := by
  funext j
  match j with
  | 0 => rfl
  | 1 => rfl
  | 2 => rfl
  | 3 => rfl
  | 4 => rfl
  | 5 => rfl
  | 6 => rfl
  | 7 => rfl
  | 8 => rfl
  | 9 => rfl
  | 10 => rfl
  | 11 => rfl
  | 12 => rfl
  | 13 => rfl
  | 14 => rfl
  | 15 => rfl
  | 16 => rfl
  | 17 => rfl
  | 18 => rfl
  | 19 => rfl
  | 20 => rfl
  | 21 => rfl
  | 22 => rfl
  | 23 => rfl
  | 24 => rfl
  | 25 => rfl
  | 26 => rfl
  | 27 => rfl
  | 28 => rfl
  | 29 => rfl
  | 30 => rfl
  | 31 => rfl
  | 32 => rfl
  | 33 => rfl
  | 34 => rfl
  | 35 => rfl
  | 36 => rfl
  | 37 => rfl
  | 38 => rfl
  | 39 => rfl
  | 40 => rfl
  | 41 => rfl
  | 42 => rfl
  | 43 => rfl
  | 44 => rfl
  | 45 => rfl
  | 46 => rfl
  | 47 => rfl
  | 48 => rfl
  | 49 => rfl
  | 50 => rfl
  | 51 => rfl
  | 52 => rfl
  | 53 => rfl
  | 54 => rfl
  | 55 => rfl
  | j + 56 =>
    show (if j + 56 = 27 then _ else _) = _
    rw [if_neg (by omega)]
    rfl
theorem hs_27_3 (IA : Nat → Nat → Int32) (LA : Nat → Nat → Int64) (RA : Nat → Nat → Option Nat) (SC : Nat → Nat → Int32) (dr : Nat) (tl : Nat → va_E) (x : Int32) : va_up (HC IA LA RA SC dr tl) 27 (.inr (1, [.int (SC 27 0), .int (SC 27 1), .int (SC 27 2), .int x, .int (SC 27 4)])) = HC IA LA RA (va_up SC 27 (upd (SC 27) 3 x)) dr tl := by
  funext j
  match j with
  | 0 => rfl
  | 1 => rfl
  | 2 => rfl
  | 3 => rfl
  | 4 => rfl
  | 5 => rfl
  | 6 => rfl
  | 7 => rfl
  | 8 => rfl
  | 9 => rfl
  | 10 => rfl
  | 11 => rfl
  | 12 => rfl
  | 13 => rfl
  | 14 => rfl
  | 15 => rfl
  | 16 => rfl
  | 17 => rfl
  | 18 => rfl
  | 19 => rfl
  | 20 => rfl
  | 21 => rfl
  | 22 => rfl
  | 23 => rfl
  | 24 => rfl
  | 25 => rfl
  | 26 => rfl
  | 27 => rfl
  | 28 => rfl
  | 29 => rfl
  | 30 => rfl
  | 31 => rfl
  | 32 => rfl
  | 33 => rfl
  | 34 => rfl
  | 35 => rfl
  | 36 => rfl
  | 37 => rfl
  | 38 => rfl
  | 39 => rfl
  | 40 => rfl
  | 41 => rfl
  | 42 => rfl
  | 43 => rfl
  | 44 => rfl
  | 45 => rfl
  | 46 => rfl
  | 47 => rfl
  | 48 => rfl
  | 49 => rfl
  | 50 => rfl
  | 51 => rfl
  | 52 => rfl
  | 53 => rfl
  | 54 => rfl
  | 55 => rfl
  | j + 56 =>
    show (if j + 56 = 27 then _ else _) = _
    rw [if_neg (by omega)]
    rfl
theorem hs_27_4 (IA : Nat → Nat → Int32) (LA : Nat → Nat → Int64) (RA : Nat → Nat → Option Nat) (SC : Nat → Nat → Int32) (dr : Nat) (tl : Nat → va_E) (x : Int32) : va_up (HC IA LA RA SC dr tl) 27 (.inr (1, [.int (SC 27 0), .int (SC 27 1), .int (SC 27 2), .int (SC 27 3), .int x])) = HC IA LA RA (va_up SC 27 (upd (SC 27) 4 x)) dr tl := by
  funext j
  match j with
  | 0 => rfl
  | 1 => rfl
  | 2 => rfl
  | 3 => rfl
  | 4 => rfl
  | 5 => rfl
  | 6 => rfl
  | 7 => rfl
  | 8 => rfl
  | 9 => rfl
  | 10 => rfl
  | 11 => rfl
  | 12 => rfl
  | 13 => rfl
  | 14 => rfl
  | 15 => rfl
  | 16 => rfl
  | 17 => rfl
  | 18 => rfl
  | 19 => rfl
  | 20 => rfl
  | 21 => rfl
  | 22 => rfl
  | 23 => rfl
  | 24 => rfl
  | 25 => rfl
  | 26 => rfl
  | 27 => rfl
  | 28 => rfl
  | 29 => rfl
  | 30 => rfl
  | 31 => rfl
  | 32 => rfl
  | 33 => rfl
  | 34 => rfl
  | 35 => rfl
  | 36 => rfl
  | 37 => rfl
  | 38 => rfl
  | 39 => rfl
  | 40 => rfl
  | 41 => rfl
  | 42 => rfl
  | 43 => rfl
  | 44 => rfl
  | 45 => rfl
  | 46 => rfl
  | 47 => rfl
  | 48 => rfl
  | 49 => rfl
  | 50 => rfl
  | 51 => rfl
  | 52 => rfl
  | 53 => rfl
  | 54 => rfl
  | 55 => rfl
  | j + 56 =>
    show (if j + 56 = 27 then _ else _) = _
    rw [if_neg (by omega)]
    rfl
theorem hs_28_0 (IA : Nat → Nat → Int32) (LA : Nat → Nat → Int64) (RA : Nat → Nat → Option Nat) (SC : Nat → Nat → Int32) (dr : Nat) (tl : Nat → va_E) (x : Int32) : va_up (HC IA LA RA SC dr tl) 28 (.inr (1, [.int x, .int (SC 28 1), .int (SC 28 2), .int (SC 28 3), .int (SC 28 4)])) = HC IA LA RA (va_up SC 28 (upd (SC 28) 0 x)) dr tl := by
  funext j
  match j with
  | 0 => rfl
  | 1 => rfl
  | 2 => rfl
  | 3 => rfl
  | 4 => rfl
  | 5 => rfl
  | 6 => rfl
  | 7 => rfl
  | 8 => rfl
  | 9 => rfl
  | 10 => rfl
  | 11 => rfl
  | 12 => rfl
  | 13 => rfl
  | 14 => rfl
  | 15 => rfl
  | 16 => rfl
  | 17 => rfl
  | 18 => rfl
  | 19 => rfl
  | 20 => rfl
  | 21 => rfl
  | 22 => rfl
  | 23 => rfl
  | 24 => rfl
  | 25 => rfl
  | 26 => rfl
  | 27 => rfl
  | 28 => rfl
  | 29 => rfl
  | 30 => rfl
  | 31 => rfl
  | 32 => rfl
  | 33 => rfl
  | 34 => rfl
  | 35 => rfl
  | 36 => rfl
  | 37 => rfl
  | 38 => rfl
  | 39 => rfl
  | 40 => rfl
  | 41 => rfl
  | 42 => rfl
  | 43 => rfl
  | 44 => rfl
  | 45 => rfl
  | 46 => rfl
  | 47 => rfl
  | 48 => rfl
  | 49 => rfl
  | 50 => rfl
  | 51 => rfl
  | 52 => rfl
  | 53 => rfl
  | 54 => rfl
  | 55 => rfl
  | j + 56 =>
    show (if j + 56 = 28 then _ else _) = _
    rw [if_neg (by omega)]
    rfl
theorem hs_28_1 (IA : Nat → Nat → Int32) (LA : Nat → Nat → Int64) (RA : Nat → Nat → Option Nat) (SC : Nat → Nat → Int32) (dr : Nat) (tl : Nat → va_E) (x : Int32) : va_up (HC IA LA RA SC dr tl) 28 (.inr (1, [.int (SC 28 0), .int x, .int (SC 28 2), .int (SC 28 3), .int (SC 28 4)])) = HC IA LA RA (va_up SC 28 (upd (SC 28) 1 x)) dr tl := by
  funext j
  match j with
  | 0 => rfl
  | 1 => rfl
  | 2 => rfl
  | 3 => rfl
  | 4 => rfl
  | 5 => rfl
  | 6 => rfl
  | 7 => rfl
  | 8 => rfl
  | 9 => rfl
  | 10 => rfl
  | 11 => rfl
  | 12 => rfl
  | 13 => rfl
  | 14 => rfl
  | 15 => rfl
  | 16 => rfl
  | 17 => rfl
  | 18 => rfl
  | 19 => rfl
  | 20 => rfl
  | 21 => rfl
  | 22 => rfl
  | 23 => rfl
  | 24 => rfl
  | 25 => rfl
  | 26 => rfl
  | 27 => rfl
  | 28 => rfl
  | 29 => rfl
  | 30 => rfl
  | 31 => rfl
  | 32 => rfl
  | 33 => rfl
  | 34 => rfl
  | 35 => rfl
  | 36 => rfl
  | 37 => rfl
  | 38 => rfl
  | 39 => rfl
  | 40 => rfl
  | 41 => rfl
  | 42 => rfl
  | 43 => rfl
  | 44 => rfl
  | 45 => rfl
  | 46 => rfl
  | 47 => rfl
  | 48 => rfl
  | 49 => rfl
  | 50 => rfl
  | 51 => rfl
  | 52 => rfl
  | 53 => rfl
  | 54 => rfl
  | 55 => rfl
  | j + 56 =>
    show (if j + 56 = 28 then _ else _) = _
    rw [if_neg (by omega)]
    rfl
theorem hs_28_2 (IA : Nat → Nat → Int32) (LA : Nat → Nat → Int64) (RA : Nat → Nat → Option Nat) (SC : Nat → Nat → Int32) (dr : Nat) (tl : Nat → va_E) (x : Int32) : va_up (HC IA LA RA SC dr tl) 28 (.inr (1, [.int (SC 28 0), .int (SC 28 1), .int x, .int (SC 28 3), .int (SC 28 4)])) = HC IA LA RA (va_up SC 28 (upd (SC 28) 2 x)) dr tl := by
  funext j
  match j with
  | 0 => rfl
  | 1 => rfl
  | 2 => rfl
  | 3 => rfl
  | 4 => rfl
  | 5 => rfl
  | 6 => rfl
  | 7 => rfl
  | 8 => rfl
  | 9 => rfl
  | 10 => rfl
  | 11 => rfl
  | 12 => rfl
  | 13 => rfl
  | 14 => rfl
  | 15 => rfl
  | 16 => rfl
  | 17 => rfl
  | 18 => rfl
  | 19 => rfl
  | 20 => rfl
  | 21 => rfl
  | 22 => rfl
  | 23 => rfl
  | 24 => rfl
  | 25 => rfl
  | 26 => rfl
  | 27 => rfl
  | 28 => rfl
  | 29 => rfl
  | 30 => rfl
  | 31 => rfl
  | 32 => rfl
  | 33 => rfl
  | 34 => rfl
  | 35 => rfl
  | 36 => rfl
  | 37 => rfl
  | 38 => rfl
  | 39 => rfl
  | 40 => rfl
  | 41 => rfl
  | 42 => rfl
  | 43 => rfl
  | 44 => rfl
  | 45 => rfl
  | 46 => rfl
  | 47 => rfl
  | 48 => rfl
  | 49 => rfl
  | 50 => rfl
  | 51 => rfl
  | 52 => rfl
  | 53 => rfl
  | 54 => rfl
  | 55 => rfl
  | j + 56 =>
    show (if j + 56 = 28 then _ else _) = _
    rw [if_neg (by omega)]
    rfl
theorem hs_28_3 (IA : Nat → Nat → Int32) (LA : Nat → Nat → Int64) (RA : Nat → Nat → Option Nat) (SC : Nat → Nat → Int32) (dr : Nat) (tl : Nat → va_E) (x : Int32) : va_up (HC IA LA RA SC dr tl) 28 (.inr (1, [.int (SC 28 0), .int (SC 28 1), .int (SC 28 2), .int x, .int (SC 28 4)])) = HC IA LA RA (va_up SC 28 (upd (SC 28) 3 x)) dr tl := by
  funext j
  match j with
  | 0 => rfl
  | 1 => rfl
  | 2 => rfl
  | 3 => rfl
  | 4 => rfl
  | 5 => rfl
  | 6 => rfl
  | 7 => rfl
  | 8 => rfl
  | 9 => rfl
  | 10 => rfl
  | 11 => rfl
  | 12 => rfl
  | 13 => rfl
  | 14 => rfl
  | 15 => rfl
  | 16 => rfl
  | 17 => rfl
  | 18 => rfl
  | 19 => rfl
  | 20 => rfl
  | 21 => rfl
  | 22 => rfl
  | 23 => rfl
  | 24 => rfl
  | 25 => rfl
  | 26 => rfl
  | 27 => rfl
  | 28 => rfl
  | 29 => rfl
  | 30 => rfl
  | 31 => rfl
  | 32 => rfl
  | 33 => rfl
  | 34 => rfl
  | 35 => rfl
  | 36 => rfl
  | 37 => rfl
  | 38 => rfl
  | 39 => rfl
  | 40 => rfl
  | 41 => rfl
  | 42 => rfl
  | 43 => rfl
  | 44 => rfl
  | 45 => rfl
  | 46 => rfl
  | 47 => rfl
  | 48 => rfl
  | 49 => rfl
  | 50 => rfl
  | 51 => rfl
  | 52 => rfl
  | 53 => rfl
  | 54 => rfl
  | 55 => rfl
  | j + 56 =>
    show (if j + 56 = 28 then _ else _) = _
    rw [if_neg (by omega)]
    rfl
theorem hs_28_4 (IA : Nat → Nat → Int32) (LA : Nat → Nat → Int64) (RA : Nat → Nat → Option Nat) (SC : Nat → Nat → Int32) (dr : Nat) (tl : Nat → va_E) (x : Int32) : va_up (HC IA LA RA SC dr tl) 28 (.inr (1, [.int (SC 28 0), .int (SC 28 1), .int (SC 28 2), .int (SC 28 3), .int x])) = HC IA LA RA (va_up SC 28 (upd (SC 28) 4 x)) dr tl := by
  funext j
  match j with
  | 0 => rfl
  | 1 => rfl
  | 2 => rfl
  | 3 => rfl
  | 4 => rfl
  | 5 => rfl
  | 6 => rfl
  | 7 => rfl
  | 8 => rfl
  | 9 => rfl
  | 10 => rfl
  | 11 => rfl
  | 12 => rfl
  | 13 => rfl
  | 14 => rfl
  | 15 => rfl
  | 16 => rfl
  | 17 => rfl
  | 18 => rfl
  | 19 => rfl
  | 20 => rfl
  | 21 => rfl
  | 22 => rfl
  | 23 => rfl
  | 24 => rfl
  | 25 => rfl
  | 26 => rfl
  | 27 => rfl
  | 28 => rfl
  | 29 => rfl
  | 30 => rfl
  | 31 => rfl
  | 32 => rfl
  | 33 => rfl
  | 34 => rfl
  | 35 => rfl
  | 36 => rfl
  | 37 => rfl
  | 38 => rfl
  | 39 => rfl
  | 40 => rfl
  | 41 => rfl
  | 42 => rfl
  | 43 => rfl
  | 44 => rfl
  | 45 => rfl
  | 46 => rfl
  | 47 => rfl
  | 48 => rfl
  | 49 => rfl
  | 50 => rfl
  | 51 => rfl
  | 52 => rfl
  | 53 => rfl
  | 54 => rfl
  | 55 => rfl
  | j + 56 =>
    show (if j + 56 = 28 then _ else _) = _
    rw [if_neg (by omega)]
    rfl
theorem hs_29_0 (IA : Nat → Nat → Int32) (LA : Nat → Nat → Int64) (RA : Nat → Nat → Option Nat) (SC : Nat → Nat → Int32) (dr : Nat) (tl : Nat → va_E) (x : Int32) : va_up (HC IA LA RA SC dr tl) 29 (.inr (1, [.int x, .int (SC 29 1), .int (SC 29 2), .int (SC 29 3), .int (SC 29 4)])) = HC IA LA RA (va_up SC 29 (upd (SC 29) 0 x)) dr tl := by
  funext j
  match j with
  | 0 => rfl
  | 1 => rfl
  | 2 => rfl
  | 3 => rfl
  | 4 => rfl
  | 5 => rfl
  | 6 => rfl
  | 7 => rfl
  | 8 => rfl
  | 9 => rfl
  | 10 => rfl
  | 11 => rfl
  | 12 => rfl
  | 13 => rfl
  | 14 => rfl
  | 15 => rfl
  | 16 => rfl
  | 17 => rfl
  | 18 => rfl
  | 19 => rfl
  | 20 => rfl
  | 21 => rfl
  | 22 => rfl
  | 23 => rfl
  | 24 => rfl
  | 25 => rfl
  | 26 => rfl
  | 27 => rfl
  | 28 => rfl
  | 29 => rfl
  | 30 => rfl
  | 31 => rfl
  | 32 => rfl
  | 33 => rfl
  | 34 => rfl
  | 35 => rfl
  | 36 => rfl
  | 37 => rfl
  | 38 => rfl
  | 39 => rfl
  | 40 => rfl
  | 41 => rfl
  | 42 => rfl
  | 43 => rfl
  | 44 => rfl
  | 45 => rfl
  | 46 => rfl
  | 47 => rfl
  | 48 => rfl
  | 49 => rfl
  | 50 => rfl
  | 51 => rfl
  | 52 => rfl
  | 53 => rfl
  | 54 => rfl
  | 55 => rfl
  | j + 56 =>
    show (if j + 56 = 29 then _ else _) = _
    rw [if_neg (by omega)]
    rfl
theorem hs_29_1 (IA : Nat → Nat → Int32) (LA : Nat → Nat → Int64) (RA : Nat → Nat → Option Nat) (SC : Nat → Nat → Int32) (dr : Nat) (tl : Nat → va_E) (x : Int32) : va_up (HC IA LA RA SC dr tl) 29 (.inr (1, [.int (SC 29 0), .int x, .int (SC 29 2), .int (SC 29 3), .int (SC 29 4)])) = HC IA LA RA (va_up SC 29 (upd (SC 29) 1 x)) dr tl := by
  funext j
  match j with
  | 0 => rfl
  | 1 => rfl
  | 2 => rfl
  | 3 => rfl
  | 4 => rfl
  | 5 => rfl
  | 6 => rfl
  | 7 => rfl
  | 8 => rfl
  | 9 => rfl
  | 10 => rfl
  | 11 => rfl
  | 12 => rfl
  | 13 => rfl
  | 14 => rfl
  | 15 => rfl
  | 16 => rfl
  | 17 => rfl
  | 18 => rfl
  | 19 => rfl
  | 20 => rfl
  | 21 => rfl
  | 22 => rfl
  | 23 => rfl
  | 24 => rfl
  | 25 => rfl
  | 26 => rfl
  | 27 => rfl
  | 28 => rfl
  | 29 => rfl
  | 30 => rfl
  | 31 => rfl
  | 32 => rfl
  | 33 => rfl
  | 34 => rfl
  | 35 => rfl
  | 36 => rfl
  | 37 => rfl
  | 38 => rfl
  | 39 => rfl
  | 40 => rfl
  | 41 => rfl
  | 42 => rfl
  | 43 => rfl
  | 44 => rfl
  | 45 => rfl
  | 46 => rfl
  | 47 => rfl
  | 48 => rfl
  | 49 => rfl
  | 50 => rfl
  | 51 => rfl
  | 52 => rfl
  | 53 => rfl
  | 54 => rfl
  | 55 => rfl
  | j + 56 =>
    show (if j + 56 = 29 then _ else _) = _
    rw [if_neg (by omega)]
    rfl
theorem hs_29_2 (IA : Nat → Nat → Int32) (LA : Nat → Nat → Int64) (RA : Nat → Nat → Option Nat) (SC : Nat → Nat → Int32) (dr : Nat) (tl : Nat → va_E) (x : Int32) : va_up (HC IA LA RA SC dr tl) 29 (.inr (1, [.int (SC 29 0), .int (SC 29 1), .int x, .int (SC 29 3), .int (SC 29 4)])) = HC IA LA RA (va_up SC 29 (upd (SC 29) 2 x)) dr tl := by
  funext j
  match j with
  | 0 => rfl
  | 1 => rfl
  | 2 => rfl
  | 3 => rfl
  | 4 => rfl
  | 5 => rfl
  | 6 => rfl
  | 7 => rfl
  | 8 => rfl
  | 9 => rfl
  | 10 => rfl
  | 11 => rfl
  | 12 => rfl
  | 13 => rfl
  | 14 => rfl
  | 15 => rfl
  | 16 => rfl
  | 17 => rfl
  | 18 => rfl
  | 19 => rfl
  | 20 => rfl
  | 21 => rfl
  | 22 => rfl
  | 23 => rfl
  | 24 => rfl
  | 25 => rfl
  | 26 => rfl
  | 27 => rfl
  | 28 => rfl
  | 29 => rfl
  | 30 => rfl
  | 31 => rfl
  | 32 => rfl
  | 33 => rfl
  | 34 => rfl
  | 35 => rfl
  | 36 => rfl
  | 37 => rfl
  | 38 => rfl
  | 39 => rfl
  | 40 => rfl
  | 41 => rfl
  | 42 => rfl
  | 43 => rfl
  | 44 => rfl
  | 45 => rfl
  | 46 => rfl
  | 47 => rfl
  | 48 => rfl
  | 49 => rfl
  | 50 => rfl
  | 51 => rfl
  | 52 => rfl
  | 53 => rfl
  | 54 => rfl
  | 55 => rfl
  | j + 56 =>
    show (if j + 56 = 29 then _ else _) = _
    rw [if_neg (by omega)]
    rfl
theorem hs_29_3 (IA : Nat → Nat → Int32) (LA : Nat → Nat → Int64) (RA : Nat → Nat → Option Nat) (SC : Nat → Nat → Int32) (dr : Nat) (tl : Nat → va_E) (x : Int32) : va_up (HC IA LA RA SC dr tl) 29 (.inr (1, [.int (SC 29 0), .int (SC 29 1), .int (SC 29 2), .int x, .int (SC 29 4)])) = HC IA LA RA (va_up SC 29 (upd (SC 29) 3 x)) dr tl := by
  funext j
  match j with
  | 0 => rfl
  | 1 => rfl
  | 2 => rfl
  | 3 => rfl
  | 4 => rfl
  | 5 => rfl
  | 6 => rfl
  | 7 => rfl
  | 8 => rfl
  | 9 => rfl
  | 10 => rfl
  | 11 => rfl
  | 12 => rfl
  | 13 => rfl
  | 14 => rfl
  | 15 => rfl
  | 16 => rfl
  | 17 => rfl
  | 18 => rfl
  | 19 => rfl
  | 20 => rfl
  | 21 => rfl
  | 22 => rfl
  | 23 => rfl
  | 24 => rfl
  | 25 => rfl
  | 26 => rfl
  | 27 => rfl
  | 28 => rfl
  | 29 => rfl
  | 30 => rfl
  | 31 => rfl
  | 32 => rfl
  | 33 => rfl
  | 34 => rfl
  | 35 => rfl
  | 36 => rfl
  | 37 => rfl
  | 38 => rfl
  | 39 => rfl
  | 40 => rfl
  | 41 => rfl
  | 42 => rfl
  | 43 => rfl
  | 44 => rfl
  | 45 => rfl
  | 46 => rfl
  | 47 => rfl
  | 48 => rfl
  | 49 => rfl
  | 50 => rfl
  | 51 => rfl
  | 52 => rfl
  | 53 => rfl
  | 54 => rfl
  | 55 => rfl
  | j + 56 =>
    show (if j + 56 = 29 then _ else _) = _
    rw [if_neg (by omega)]
    rfl
theorem hs_29_4 (IA : Nat → Nat → Int32) (LA : Nat → Nat → Int64) (RA : Nat → Nat → Option Nat) (SC : Nat → Nat → Int32) (dr : Nat) (tl : Nat → va_E) (x : Int32) : va_up (HC IA LA RA SC dr tl) 29 (.inr (1, [.int (SC 29 0), .int (SC 29 1), .int (SC 29 2), .int (SC 29 3), .int x])) = HC IA LA RA (va_up SC 29 (upd (SC 29) 4 x)) dr tl := by
  funext j
  match j with
  | 0 => rfl
  | 1 => rfl
  | 2 => rfl
  | 3 => rfl
  | 4 => rfl
  | 5 => rfl
  | 6 => rfl
  | 7 => rfl
  | 8 => rfl
  | 9 => rfl
  | 10 => rfl
  | 11 => rfl
  | 12 => rfl
  | 13 => rfl
  | 14 => rfl
  | 15 => rfl
  | 16 => rfl
  | 17 => rfl
  | 18 => rfl
  | 19 => rfl
  | 20 => rfl
  | 21 => rfl
  | 22 => rfl
  | 23 => rfl
  | 24 => rfl
  | 25 => rfl
  | 26 => rfl
  | 27 => rfl
  | 28 => rfl
  | 29 => rfl
  | 30 => rfl
  | 31 => rfl
  | 32 => rfl
  | 33 => rfl
  | 34 => rfl
  | 35 => rfl
  | 36 => rfl
  | 37 => rfl
  | 38 => rfl
  | 39 => rfl
  | 40 => rfl
  | 41 => rfl
  | 42 => rfl
  | 43 => rfl
  | 44 => rfl
  | 45 => rfl
  | 46 => rfl
  | 47 => rfl
  | 48 => rfl
  | 49 => rfl
  | 50 => rfl
  | 51 => rfl
  | 52 => rfl
  | 53 => rfl
  | 54 => rfl
  | 55 => rfl
  | j + 56 =>
    show (if j + 56 = 29 then _ else _) = _
    rw [if_neg (by omega)]
    rfl
theorem hs_30_0 (IA : Nat → Nat → Int32) (LA : Nat → Nat → Int64) (RA : Nat → Nat → Option Nat) (SC : Nat → Nat → Int32) (dr : Nat) (tl : Nat → va_E) (x : Int32) : va_up (HC IA LA RA SC dr tl) 30 (.inr (1, [.int x, .int (SC 30 1), .int (SC 30 2), .int (SC 30 3), .int (SC 30 4)])) = HC IA LA RA (va_up SC 30 (upd (SC 30) 0 x)) dr tl := by
  funext j
  match j with
  | 0 => rfl
  | 1 => rfl
  | 2 => rfl
  | 3 => rfl
  | 4 => rfl
  | 5 => rfl
  | 6 => rfl
  | 7 => rfl
  | 8 => rfl
  | 9 => rfl
  | 10 => rfl
  | 11 => rfl
  | 12 => rfl
  | 13 => rfl
  | 14 => rfl
  | 15 => rfl
  | 16 => rfl
  | 17 => rfl
  | 18 => rfl
  | 19 => rfl
  | 20 => rfl
  | 21 => rfl
  | 22 => rfl
  | 23 => rfl
  | 24 => rfl
  | 25 => rfl
  | 26 => rfl
  | 27 => rfl
  | 28 => rfl
  | 29 => rfl
  | 30 => rfl
  | 31 => rfl
  | 32 => rfl
  | 33 => rfl
  | 34 => rfl
  | 35 => rfl
  | 36 => rfl
  | 37 => rfl
  | 38 => rfl
  | 39 => rfl
  | 40 => rfl
  | 41 => rfl
  | 42 => rfl
  | 43 => rfl
  | 44 => rfl
  | 45 => rfl
  | 46 => rfl
  | 47 => rfl
  | 48 => rfl
  | 49 => rfl
  | 50 => rfl
  | 51 => rfl
  | 52 => rfl
  | 53 => rfl
  | 54 => rfl
  | 55 => rfl
  | j + 56 =>
    show (if j + 56 = 30 then _ else _) = _
    rw [if_neg (by omega)]
    rfl
theorem hs_30_1 (IA : Nat → Nat → Int32) (LA : Nat → Nat → Int64) (RA : Nat → Nat → Option Nat) (SC : Nat → Nat → Int32) (dr : Nat) (tl : Nat → va_E) (x : Int32) : va_up (HC IA LA RA SC dr tl) 30 (.inr (1, [.int (SC 30 0), .int x, .int (SC 30 2), .int (SC 30 3), .int (SC 30 4)])) = HC IA LA RA (va_up SC 30 (upd (SC 30) 1 x)) dr tl := by
  funext j
  match j with
  | 0 => rfl
  | 1 => rfl
  | 2 => rfl
  | 3 => rfl
  | 4 => rfl
  | 5 => rfl
  | 6 => rfl
  | 7 => rfl
  | 8 => rfl
  | 9 => rfl
  | 10 => rfl
  | 11 => rfl
  | 12 => rfl
  | 13 => rfl
  | 14 => rfl
  | 15 => rfl
  | 16 => rfl
  | 17 => rfl
  | 18 => rfl
  | 19 => rfl
  | 20 => rfl
  | 21 => rfl
  | 22 => rfl
  | 23 => rfl
  | 24 => rfl
  | 25 => rfl
  | 26 => rfl
  | 27 => rfl
  | 28 => rfl
  | 29 => rfl
  | 30 => rfl
  | 31 => rfl
  | 32 => rfl
  | 33 => rfl
  | 34 => rfl
  | 35 => rfl
  | 36 => rfl
  | 37 => rfl
  | 38 => rfl
  | 39 => rfl
  | 40 => rfl
  | 41 => rfl
  | 42 => rfl
  | 43 => rfl
  | 44 => rfl
  | 45 => rfl
  | 46 => rfl
  | 47 => rfl
  | 48 => rfl
  | 49 => rfl
  | 50 => rfl
  | 51 => rfl
  | 52 => rfl
  | 53 => rfl
  | 54 => rfl
  | 55 => rfl
  | j + 56 =>
    show (if j + 56 = 30 then _ else _) = _
    rw [if_neg (by omega)]
    rfl
theorem hs_30_2 (IA : Nat → Nat → Int32) (LA : Nat → Nat → Int64) (RA : Nat → Nat → Option Nat) (SC : Nat → Nat → Int32) (dr : Nat) (tl : Nat → va_E) (x : Int32) : va_up (HC IA LA RA SC dr tl) 30 (.inr (1, [.int (SC 30 0), .int (SC 30 1), .int x, .int (SC 30 3), .int (SC 30 4)])) = HC IA LA RA (va_up SC 30 (upd (SC 30) 2 x)) dr tl := by
  funext j
  match j with
  | 0 => rfl
  | 1 => rfl
  | 2 => rfl
  | 3 => rfl
  | 4 => rfl
  | 5 => rfl
  | 6 => rfl
  | 7 => rfl
  | 8 => rfl
  | 9 => rfl
  | 10 => rfl
  | 11 => rfl
  | 12 => rfl
  | 13 => rfl
  | 14 => rfl
  | 15 => rfl
  | 16 => rfl
  | 17 => rfl
  | 18 => rfl
  | 19 => rfl
  | 20 => rfl
  | 21 => rfl
  | 22 => rfl
  | 23 => rfl
  | 24 => rfl
  | 25 => rfl
  | 26 => rfl
  | 27 => rfl
  | 28 => rfl
  | 29 => rfl
  | 30 => rfl
  | 31 => rfl
  | 32 => rfl
  | 33 => rfl
  | 34 => rfl
  | 35 => rfl
  | 36 => rfl
  | 37 => rfl
  | 38 => rfl
  | 39 => rfl
  | 40 => rfl
  | 41 => rfl
  | 42 => rfl
  | 43 => rfl
  | 44 => rfl
  | 45 => rfl
  | 46 => rfl
  | 47 => rfl
  | 48 => rfl
  | 49 => rfl
  | 50 => rfl
  | 51 => rfl
  | 52 => rfl
  | 53 => rfl
  | 54 => rfl
  | 55 => rfl
  | j + 56 =>
    show (if j + 56 = 30 then _ else _) = _
    rw [if_neg (by omega)]
    rfl
theorem hs_30_3 (IA : Nat → Nat → Int32) (LA : Nat → Nat → Int64) (RA : Nat → Nat → Option Nat) (SC : Nat → Nat → Int32) (dr : Nat) (tl : Nat → va_E) (x : Int32) : va_up (HC IA LA RA SC dr tl) 30 (.inr (1, [.int (SC 30 0), .int (SC 30 1), .int (SC 30 2), .int x, .int (SC 30 4)])) = HC IA LA RA (va_up SC 30 (upd (SC 30) 3 x)) dr tl := by
  funext j
  match j with
  | 0 => rfl
  | 1 => rfl
  | 2 => rfl
  | 3 => rfl
  | 4 => rfl
  | 5 => rfl
  | 6 => rfl
  | 7 => rfl
  | 8 => rfl
  | 9 => rfl
  | 10 => rfl
  | 11 => rfl
  | 12 => rfl
  | 13 => rfl
  | 14 => rfl
  | 15 => rfl
  | 16 => rfl
  | 17 => rfl
  | 18 => rfl
  | 19 => rfl
  | 20 => rfl
  | 21 => rfl
  | 22 => rfl
  | 23 => rfl
  | 24 => rfl
  | 25 => rfl
  | 26 => rfl
  | 27 => rfl
  | 28 => rfl
  | 29 => rfl
  | 30 => rfl
  | 31 => rfl
  | 32 => rfl
  | 33 => rfl
  | 34 => rfl
  | 35 => rfl
  | 36 => rfl
  | 37 => rfl
  | 38 => rfl
  | 39 => rfl
  | 40 => rfl
  | 41 => rfl
  | 42 => rfl
  | 43 => rfl
  | 44 => rfl
  | 45 => rfl
  | 46 => rfl
  | 47 => rfl
  | 48 => rfl
  | 49 => rfl
  | 50 => rfl
  | 51 => rfl
  | 52 => rfl
  | 53 => rfl
  | 54 => rfl
  | 55 => rfl
  | j + 56 =>
    show (if j + 56 = 30 then _ else _) = _
    rw [if_neg (by omega)]
    rfl
theorem hs_30_4 (IA : Nat → Nat → Int32) (LA : Nat → Nat → Int64) (RA : Nat → Nat → Option Nat) (SC : Nat → Nat → Int32) (dr : Nat) (tl : Nat → va_E) (x : Int32) : va_up (HC IA LA RA SC dr tl) 30 (.inr (1, [.int (SC 30 0), .int (SC 30 1), .int (SC 30 2), .int (SC 30 3), .int x])) = HC IA LA RA (va_up SC 30 (upd (SC 30) 4 x)) dr tl := by
  funext j
  match j with
  | 0 => rfl
  | 1 => rfl
  | 2 => rfl
  | 3 => rfl
  | 4 => rfl
  | 5 => rfl
  | 6 => rfl
  | 7 => rfl
  | 8 => rfl
  | 9 => rfl
  | 10 => rfl
  | 11 => rfl
  | 12 => rfl
  | 13 => rfl
  | 14 => rfl
  | 15 => rfl
  | 16 => rfl
  | 17 => rfl
  | 18 => rfl
  | 19 => rfl
  | 20 => rfl
  | 21 => rfl
  | 22 => rfl
  | 23 => rfl
  | 24 => rfl
  | 25 => rfl
  | 26 => rfl
  | 27 => rfl
  | 28 => rfl
  | 29 => rfl
  | 30 => rfl
  | 31 => rfl
  | 32 => rfl
  | 33 => rfl
  | 34 => rfl
  | 35 => rfl
  | 36 => rfl
  | 37 => rfl
  | 38 => rfl
  | 39 => rfl
  | 40 => rfl
  | 41 => rfl
  | 42 => rfl
  | 43 => rfl
  | 44 => rfl
  | 45 => rfl
  | 46 => rfl
  | 47 => rfl
  | 48 => rfl
  | 49 => rfl
  | 50 => rfl
  | 51 => rfl
  | 52 => rfl
  | 53 => rfl
  | 54 => rfl
  | 55 => rfl
  | j + 56 =>
    show (if j + 56 = 30 then _ else _) = _
    rw [if_neg (by omega)]
    rfl
theorem hs_31_0 (IA : Nat → Nat → Int32) (LA : Nat → Nat → Int64) (RA : Nat → Nat → Option Nat) (SC : Nat → Nat → Int32) (dr : Nat) (tl : Nat → va_E) (x : Int32) : va_up (HC IA LA RA SC dr tl) 31 (.inr (1, [.int x, .int (SC 31 1), .int (SC 31 2), .int (SC 31 3), .int (SC 31 4)])) = HC IA LA RA (va_up SC 31 (upd (SC 31) 0 x)) dr tl := by
  funext j
  match j with
  | 0 => rfl
  | 1 => rfl
  | 2 => rfl
  | 3 => rfl
  | 4 => rfl
  | 5 => rfl
  | 6 => rfl
  | 7 => rfl
  | 8 => rfl
  | 9 => rfl
  | 10 => rfl
  | 11 => rfl
  | 12 => rfl
  | 13 => rfl
  | 14 => rfl
  | 15 => rfl
  | 16 => rfl
  | 17 => rfl
  | 18 => rfl
  | 19 => rfl
  | 20 => rfl
  | 21 => rfl
  | 22 => rfl
  | 23 => rfl
  | 24 => rfl
  | 25 => rfl
  | 26 => rfl
  | 27 => rfl
  | 28 => rfl
  | 29 => rfl
  | 30 => rfl
  | 31 => rfl
  | 32 => rfl
  | 33 => rfl
  | 34 => rfl
  | 35 => rfl
  | 36 => rfl
  | 37 => rfl
  | 38 => rfl
  | 39 => rfl
  | 40 => rfl
  | 41 => rfl
  | 42 => rfl
  | 43 => rfl
  | 44 => rfl
  | 45 => rfl
  | 46 => rfl
  | 47 => rfl
  | 48 => rfl
  | 49 => rfl
  | 50 => rfl
  | 51 => rfl
  | 52 => rfl
  | 53 => rfl
  | 54 => rfl
  | 55 => rfl
  | j + 56 =>
    show (if j + 56 = 31 then _ else _) = _
    rw [if_neg (by omega)]
    rfl
theorem hs_31_1 (IA : Nat → Nat → Int32) (LA : Nat → Nat → Int64) (RA : Nat → Nat → Option Nat) (SC : Nat → Nat → Int32) (dr : Nat) (tl : Nat → va_E) (x : Int32) : va_up (HC IA LA RA SC dr tl) 31 (.inr (1, [.int (SC 31 0), .int x, .int (SC 31 2), .int (SC 31 3), .int (SC 31 4)])) = HC IA LA RA (va_up SC 31 (upd (SC 31) 1 x)) dr tl := by
  funext j
  match j with
  | 0 => rfl
  | 1 => rfl
  | 2 => rfl
  | 3 => rfl
  | 4 => rfl
  | 5 => rfl
  | 6 => rfl
  | 7 => rfl
  | 8 => rfl
  | 9 => rfl
  | 10 => rfl
  | 11 => rfl
  | 12 => rfl
  | 13 => rfl
  | 14 => rfl
  | 15 => rfl
  | 16 => rfl
  | 17 => rfl
  | 18 => rfl
  | 19 => rfl
  | 20 => rfl
  | 21 => rfl
  | 22 => rfl
  | 23 => rfl
  | 24 => rfl
  | 25 => rfl
  | 26 => rfl
  | 27 => rfl
  | 28 => rfl
  | 29 => rfl
  | 30 => rfl
  | 31 => rfl
  | 32 => rfl
  | 33 => rfl
  | 34 => rfl
  | 35 => rfl
  | 36 => rfl
  | 37 => rfl
  | 38 => rfl
  | 39 => rfl
  | 40 => rfl
  | 41 => rfl
  | 42 => rfl
  | 43 => rfl
  | 44 => rfl
  | 45 => rfl
  | 46 => rfl
  | 47 => rfl
  | 48 => rfl
  | 49 => rfl
  | 50 => rfl
  | 51 => rfl
  | 52 => rfl
  | 53 => rfl
  | 54 => rfl
  | 55 => rfl
  | j + 56 =>
    show (if j + 56 = 31 then _ else _) = _
    rw [if_neg (by omega)]
    rfl
theorem hs_31_2 (IA : Nat → Nat → Int32) (LA : Nat → Nat → Int64) (RA : Nat → Nat → Option Nat) (SC : Nat → Nat → Int32) (dr : Nat) (tl : Nat → va_E) (x : Int32) : va_up (HC IA LA RA SC dr tl) 31 (.inr (1, [.int (SC 31 0), .int (SC 31 1), .int x, .int (SC 31 3), .int (SC 31 4)])) = HC IA LA RA (va_up SC 31 (upd (SC 31) 2 x)) dr tl := by
  funext j
  match j with
  | 0 => rfl
  | 1 => rfl
  | 2 => rfl
  | 3 => rfl
  | 4 => rfl
  | 5 => rfl
  | 6 => rfl
  | 7 => rfl
  | 8 => rfl
  | 9 => rfl
  | 10 => rfl
  | 11 => rfl
  | 12 => rfl
  | 13 => rfl
  | 14 => rfl
  | 15 => rfl
  | 16 => rfl
  | 17 => rfl
  | 18 => rfl
  | 19 => rfl
  | 20 => rfl
  | 21 => rfl
  | 22 => rfl
  | 23 => rfl
  | 24 => rfl
  | 25 => rfl
  | 26 => rfl
  | 27 => rfl
  | 28 => rfl
  | 29 => rfl
  | 30 => rfl
  | 31 => rfl
  | 32 => rfl
  | 33 => rfl
  | 34 => rfl
  | 35 => rfl
  | 36 => rfl
  | 37 => rfl
  | 38 => rfl
  | 39 => rfl
  | 40 => rfl
  | 41 => rfl
  | 42 => rfl
  | 43 => rfl
  | 44 => rfl
  | 45 => rfl
  | 46 => rfl
  | 47 => rfl
  | 48 => rfl
  | 49 => rfl
  | 50 => rfl
  | 51 => rfl
  | 52 => rfl
  | 53 => rfl
  | 54 => rfl
  | 55 => rfl
  | j + 56 =>
    show (if j + 56 = 31 then _ else _) = _
    rw [if_neg (by omega)]
    rfl
theorem hs_31_3 (IA : Nat → Nat → Int32) (LA : Nat → Nat → Int64) (RA : Nat → Nat → Option Nat) (SC : Nat → Nat → Int32) (dr : Nat) (tl : Nat → va_E) (x : Int32) : va_up (HC IA LA RA SC dr tl) 31 (.inr (1, [.int (SC 31 0), .int (SC 31 1), .int (SC 31 2), .int x, .int (SC 31 4)])) = HC IA LA RA (va_up SC 31 (upd (SC 31) 3 x)) dr tl := by
  funext j
  match j with
  | 0 => rfl
  | 1 => rfl
  | 2 => rfl
  | 3 => rfl
  | 4 => rfl
  | 5 => rfl
  | 6 => rfl
  | 7 => rfl
  | 8 => rfl
  | 9 => rfl
  | 10 => rfl
  | 11 => rfl
  | 12 => rfl
  | 13 => rfl
  | 14 => rfl
  | 15 => rfl
  | 16 => rfl
  | 17 => rfl
  | 18 => rfl
  | 19 => rfl
  | 20 => rfl
  | 21 => rfl
  | 22 => rfl
  | 23 => rfl
  | 24 => rfl
  | 25 => rfl
  | 26 => rfl
  | 27 => rfl
  | 28 => rfl
  | 29 => rfl
  | 30 => rfl
  | 31 => rfl
  | 32 => rfl
  | 33 => rfl
  | 34 => rfl
  | 35 => rfl
  | 36 => rfl
  | 37 => rfl
  | 38 => rfl
  | 39 => rfl
  | 40 => rfl
  | 41 => rfl
  | 42 => rfl
  | 43 => rfl
  | 44 => rfl
  | 45 => rfl
  | 46 => rfl
  | 47 => rfl
  | 48 => rfl
  | 49 => rfl
  | 50 => rfl
  | 51 => rfl
  | 52 => rfl
  | 53 => rfl
  | 54 => rfl
  | 55 => rfl
  | j + 56 =>
    show (if j + 56 = 31 then _ else _) = _
    rw [if_neg (by omega)]
    rfl
theorem hs_31_4 (IA : Nat → Nat → Int32) (LA : Nat → Nat → Int64) (RA : Nat → Nat → Option Nat) (SC : Nat → Nat → Int32) (dr : Nat) (tl : Nat → va_E) (x : Int32) : va_up (HC IA LA RA SC dr tl) 31 (.inr (1, [.int (SC 31 0), .int (SC 31 1), .int (SC 31 2), .int (SC 31 3), .int x])) = HC IA LA RA (va_up SC 31 (upd (SC 31) 4 x)) dr tl := by
  funext j
  match j with
  | 0 => rfl
  | 1 => rfl
  | 2 => rfl
  | 3 => rfl
  | 4 => rfl
  | 5 => rfl
  | 6 => rfl
  | 7 => rfl
  | 8 => rfl
  | 9 => rfl
  | 10 => rfl
  | 11 => rfl
  | 12 => rfl
  | 13 => rfl
  | 14 => rfl
  | 15 => rfl
  | 16 => rfl
  | 17 => rfl
  | 18 => rfl
  | 19 => rfl
  | 20 => rfl
  | 21 => rfl
  | 22 => rfl
  | 23 => rfl
  | 24 => rfl
  | 25 => rfl
  | 26 => rfl
  | 27 => rfl
  | 28 => rfl
  | 29 => rfl
  | 30 => rfl
  | 31 => rfl
  | 32 => rfl
  | 33 => rfl
  | 34 => rfl
  | 35 => rfl
  | 36 => rfl
  | 37 => rfl
  | 38 => rfl
  | 39 => rfl
  | 40 => rfl
  | 41 => rfl
  | 42 => rfl
  | 43 => rfl
  | 44 => rfl
  | 45 => rfl
  | 46 => rfl
  | 47 => rfl
  | 48 => rfl
  | 49 => rfl
  | 50 => rfl
  | 51 => rfl
  | 52 => rfl
  | 53 => rfl
  | 54 => rfl
  | 55 => rfl
  | j + 56 =>
    show (if j + 56 = 31 then _ else _) = _
    rw [if_neg (by omega)]
    rfl
theorem hs_32_0 (IA : Nat → Nat → Int32) (LA : Nat → Nat → Int64) (RA : Nat → Nat → Option Nat) (SC : Nat → Nat → Int32) (dr : Nat) (tl : Nat → va_E) (x : Int32) : va_up (HC IA LA RA SC dr tl) 32 (.inr (1, [.int x, .int (SC 32 1), .int (SC 32 2), .int (SC 32 3), .int (SC 32 4)])) = HC IA LA RA (va_up SC 32 (upd (SC 32) 0 x)) dr tl := by
  funext j
  match j with
  | 0 => rfl
  | 1 => rfl
  | 2 => rfl
  | 3 => rfl
  | 4 => rfl
  | 5 => rfl
  | 6 => rfl
  | 7 => rfl
  | 8 => rfl
  | 9 => rfl
  | 10 => rfl
  | 11 => rfl
  | 12 => rfl
  | 13 => rfl
  | 14 => rfl
  | 15 => rfl
  | 16 => rfl
  | 17 => rfl
  | 18 => rfl
  | 19 => rfl
  | 20 => rfl
  | 21 => rfl
  | 22 => rfl
  | 23 => rfl
  | 24 => rfl
  | 25 => rfl
  | 26 => rfl
  | 27 => rfl
  | 28 => rfl
  | 29 => rfl
  | 30 => rfl
  | 31 => rfl
  | 32 => rfl
  | 33 => rfl
  | 34 => rfl
  | 35 => rfl
  | 36 => rfl
  | 37 => rfl
  | 38 => rfl
  | 39 => rfl
  | 40 => rfl
  | 41 => rfl
  | 42 => rfl
  | 43 => rfl
  | 44 => rfl
  | 45 => rfl
  | 46 => rfl
  | 47 => rfl
  | 48 => rfl
  | 49 => rfl
  | 50 => rfl
  | 51 => rfl
  | 52 => rfl
  | 53 => rfl
  | 54 => rfl
  | 55 => rfl
  | j + 56 =>
    show (if j + 56 = 32 then _ else _) = _
    rw [if_neg (by omega)]
    rfl
theorem hs_32_1 (IA : Nat → Nat → Int32) (LA : Nat → Nat → Int64) (RA : Nat → Nat → Option Nat) (SC : Nat → Nat → Int32) (dr : Nat) (tl : Nat → va_E) (x : Int32) : va_up (HC IA LA RA SC dr tl) 32 (.inr (1, [.int (SC 32 0), .int x, .int (SC 32 2), .int (SC 32 3), .int (SC 32 4)])) = HC IA LA RA (va_up SC 32 (upd (SC 32) 1 x)) dr tl := by
  funext j
  match j with
  | 0 => rfl
  | 1 => rfl
  | 2 => rfl
  | 3 => rfl
  | 4 => rfl
  | 5 => rfl
  | 6 => rfl
  | 7 => rfl
  | 8 => rfl
  | 9 => rfl
  | 10 => rfl
  | 11 => rfl
  | 12 => rfl
  | 13 => rfl
  | 14 => rfl
  | 15 => rfl
  | 16 => rfl
  | 17 => rfl
  | 18 => rfl
  | 19 => rfl
  | 20 => rfl
  | 21 => rfl
  | 22 => rfl
  | 23 => rfl
  | 24 => rfl
  | 25 => rfl
  | 26 => rfl
  | 27 => rfl
  | 28 => rfl
  | 29 => rfl
  | 30 => rfl
  | 31 => rfl
  | 32 => rfl
  | 33 => rfl
  | 34 => rfl
  | 35 => rfl
  | 36 => rfl
  | 37 => rfl
  | 38 => rfl
  | 39 => rfl
  | 40 => rfl
  | 41 => rfl
  | 42 => rfl
  | 43 => rfl
  | 44 => rfl
  | 45 => rfl
  | 46 => rfl
  | 47 => rfl
  | 48 => rfl
  | 49 => rfl
  | 50 => rfl
  | 51 => rfl
  | 52 => rfl
  | 53 => rfl
  | 54 => rfl
  | 55 => rfl
  | j + 56 =>
    show (if j + 56 = 32 then _ else _) = _
    rw [if_neg (by omega)]
    rfl
theorem hs_32_2 (IA : Nat → Nat → Int32) (LA : Nat → Nat → Int64) (RA : Nat → Nat → Option Nat) (SC : Nat → Nat → Int32) (dr : Nat) (tl : Nat → va_E) (x : Int32) : va_up (HC IA LA RA SC dr tl) 32 (.inr (1, [.int (SC 32 0), .int (SC 32 1), .int x, .int (SC 32 3), .int (SC 32 4)])) = HC IA LA RA (va_up SC 32 (upd (SC 32) 2 x)) dr tl := by
  funext j
  match j with
  | 0 => rfl
  | 1 => rfl
  | 2 => rfl
  | 3 => rfl
  | 4 => rfl
  | 5 => rfl
  | 6 => rfl
  | 7 => rfl
  | 8 => rfl
  | 9 => rfl
  | 10 => rfl
  | 11 => rfl
  | 12 => rfl
  | 13 => rfl
  | 14 => rfl
  | 15 => rfl
  | 16 => rfl
  | 17 => rfl
  | 18 => rfl
  | 19 => rfl
  | 20 => rfl
  | 21 => rfl
  | 22 => rfl
  | 23 => rfl
  | 24 => rfl
  | 25 => rfl
  | 26 => rfl
  | 27 => rfl
  | 28 => rfl
  | 29 => rfl
  | 30 => rfl
  | 31 => rfl
  | 32 => rfl
  | 33 => rfl
  | 34 => rfl
  | 35 => rfl
  | 36 => rfl
  | 37 => rfl
  | 38 => rfl
  | 39 => rfl
  | 40 => rfl
  | 41 => rfl
  | 42 => rfl
  | 43 => rfl
  | 44 => rfl
  | 45 => rfl
  | 46 => rfl
  | 47 => rfl
  | 48 => rfl
  | 49 => rfl
  | 50 => rfl
  | 51 => rfl
  | 52 => rfl
  | 53 => rfl
  | 54 => rfl
  | 55 => rfl
  | j + 56 =>
    show (if j + 56 = 32 then _ else _) = _
    rw [if_neg (by omega)]
    rfl
theorem hs_32_3 (IA : Nat → Nat → Int32) (LA : Nat → Nat → Int64) (RA : Nat → Nat → Option Nat) (SC : Nat → Nat → Int32) (dr : Nat) (tl : Nat → va_E) (x : Int32) : va_up (HC IA LA RA SC dr tl) 32 (.inr (1, [.int (SC 32 0), .int (SC 32 1), .int (SC 32 2), .int x, .int (SC 32 4)])) = HC IA LA RA (va_up SC 32 (upd (SC 32) 3 x)) dr tl := by
  funext j
  match j with
  | 0 => rfl
  | 1 => rfl
  | 2 => rfl
  | 3 => rfl
  | 4 => rfl
  | 5 => rfl
  | 6 => rfl
  | 7 => rfl
  | 8 => rfl
  | 9 => rfl
  | 10 => rfl
  | 11 => rfl
  | 12 => rfl
  | 13 => rfl
  | 14 => rfl
  | 15 => rfl
  | 16 => rfl
  | 17 => rfl
  | 18 => rfl
  | 19 => rfl
  | 20 => rfl
  | 21 => rfl
  | 22 => rfl
  | 23 => rfl
  | 24 => rfl
  | 25 => rfl
  | 26 => rfl
  | 27 => rfl
  | 28 => rfl
  | 29 => rfl
  | 30 => rfl
  | 31 => rfl
  | 32 => rfl
  | 33 => rfl
  | 34 => rfl
  | 35 => rfl
  | 36 => rfl
  | 37 => rfl
  | 38 => rfl
  | 39 => rfl
  | 40 => rfl
  | 41 => rfl
  | 42 => rfl
  | 43 => rfl
  | 44 => rfl
  | 45 => rfl
  | 46 => rfl
  | 47 => rfl
  | 48 => rfl
  | 49 => rfl
  | 50 => rfl
  | 51 => rfl
  | 52 => rfl
  | 53 => rfl
  | 54 => rfl
  | 55 => rfl
  | j + 56 =>
    show (if j + 56 = 32 then _ else _) = _
    rw [if_neg (by omega)]
    rfl
theorem hs_32_4 (IA : Nat → Nat → Int32) (LA : Nat → Nat → Int64) (RA : Nat → Nat → Option Nat) (SC : Nat → Nat → Int32) (dr : Nat) (tl : Nat → va_E) (x : Int32) : va_up (HC IA LA RA SC dr tl) 32 (.inr (1, [.int (SC 32 0), .int (SC 32 1), .int (SC 32 2), .int (SC 32 3), .int x])) = HC IA LA RA (va_up SC 32 (upd (SC 32) 4 x)) dr tl := by
  funext j
  match j with
  | 0 => rfl
  | 1 => rfl
  | 2 => rfl
  | 3 => rfl
  | 4 => rfl
  | 5 => rfl
  | 6 => rfl
  | 7 => rfl
  | 8 => rfl
  | 9 => rfl
  | 10 => rfl
  | 11 => rfl
  | 12 => rfl
  | 13 => rfl
  | 14 => rfl
  | 15 => rfl
  | 16 => rfl
  | 17 => rfl
  | 18 => rfl
  | 19 => rfl
  | 20 => rfl
  | 21 => rfl
  | 22 => rfl
  | 23 => rfl
  | 24 => rfl
  | 25 => rfl
  | 26 => rfl
  | 27 => rfl
  | 28 => rfl
  | 29 => rfl
  | 30 => rfl
  | 31 => rfl
  | 32 => rfl
  | 33 => rfl
  | 34 => rfl
  | 35 => rfl
  | 36 => rfl
  | 37 => rfl
  | 38 => rfl
  | 39 => rfl
  | 40 => rfl
  | 41 => rfl
  | 42 => rfl
  | 43 => rfl
  | 44 => rfl
  | 45 => rfl
  | 46 => rfl
  | 47 => rfl
  | 48 => rfl
  | 49 => rfl
  | 50 => rfl
  | 51 => rfl
  | 52 => rfl
  | 53 => rfl
  | 54 => rfl
  | 55 => rfl
  | j + 56 =>
    show (if j + 56 = 32 then _ else _) = _
    rw [if_neg (by omega)]
    rfl
theorem hs_36_2 (IA : Nat → Nat → Int32) (LA : Nat → Nat → Int64) (RA : Nat → Nat → Option Nat) (SC : Nat → Nat → Int32) (dr : Nat) (tl : Nat → va_E) (x : Int32) : va_up (HC IA LA RA SC dr tl) 36 (.inr (8, [.ref 37, .ref 38, .int x, .ref 39, .ref 40, .ref 41, .ref 42, .ref 43, .ref 44, .ref 45, .ref 46, .ref 47, .ref 48, .ref 49, .ref 50, .ref 51, .int (SC 36 16), .ref 52, .int (SC 36 18), .int (SC 36 19), .int (SC 36 20), .int (SC 36 21), .int (SC 36 22), .ref 53, .ref 54])) = HC IA LA RA (va_up SC 36 (upd (SC 36) 2 x)) dr tl := by
  funext j
  match j with
  | 0 => rfl
  | 1 => rfl
  | 2 => rfl
  | 3 => rfl
  | 4 => rfl
  | 5 => rfl
  | 6 => rfl
  | 7 => rfl
  | 8 => rfl
  | 9 => rfl
  | 10 => rfl
  | 11 => rfl
  | 12 => rfl
  | 13 => rfl
  | 14 => rfl
  | 15 => rfl
  | 16 => rfl
  | 17 => rfl
  | 18 => rfl
  | 19 => rfl
  | 20 => rfl
  | 21 => rfl
  | 22 => rfl
  | 23 => rfl
  | 24 => rfl
  | 25 => rfl
  | 26 => rfl
  | 27 => rfl
  | 28 => rfl
  | 29 => rfl
  | 30 => rfl
  | 31 => rfl
  | 32 => rfl
  | 33 => rfl
  | 34 => rfl
  | 35 => rfl
  | 36 => rfl
  | 37 => rfl
  | 38 => rfl
  | 39 => rfl
  | 40 => rfl
  | 41 => rfl
  | 42 => rfl
  | 43 => rfl
  | 44 => rfl
  | 45 => rfl
  | 46 => rfl
  | 47 => rfl
  | 48 => rfl
  | 49 => rfl
  | 50 => rfl
  | 51 => rfl
  | 52 => rfl
  | 53 => rfl
  | 54 => rfl
  | 55 => rfl
  | j + 56 =>
    show (if j + 56 = 36 then _ else _) = _
    rw [if_neg (by omega)]
    rfl
theorem hs_36_16 (IA : Nat → Nat → Int32) (LA : Nat → Nat → Int64) (RA : Nat → Nat → Option Nat) (SC : Nat → Nat → Int32) (dr : Nat) (tl : Nat → va_E) (x : Int32) : va_up (HC IA LA RA SC dr tl) 36 (.inr (8, [.ref 37, .ref 38, .int (SC 36 2), .ref 39, .ref 40, .ref 41, .ref 42, .ref 43, .ref 44, .ref 45, .ref 46, .ref 47, .ref 48, .ref 49, .ref 50, .ref 51, .int x, .ref 52, .int (SC 36 18), .int (SC 36 19), .int (SC 36 20), .int (SC 36 21), .int (SC 36 22), .ref 53, .ref 54])) = HC IA LA RA (va_up SC 36 (upd (SC 36) 16 x)) dr tl := by
  funext j
  match j with
  | 0 => rfl
  | 1 => rfl
  | 2 => rfl
  | 3 => rfl
  | 4 => rfl
  | 5 => rfl
  | 6 => rfl
  | 7 => rfl
  | 8 => rfl
  | 9 => rfl
  | 10 => rfl
  | 11 => rfl
  | 12 => rfl
  | 13 => rfl
  | 14 => rfl
  | 15 => rfl
  | 16 => rfl
  | 17 => rfl
  | 18 => rfl
  | 19 => rfl
  | 20 => rfl
  | 21 => rfl
  | 22 => rfl
  | 23 => rfl
  | 24 => rfl
  | 25 => rfl
  | 26 => rfl
  | 27 => rfl
  | 28 => rfl
  | 29 => rfl
  | 30 => rfl
  | 31 => rfl
  | 32 => rfl
  | 33 => rfl
  | 34 => rfl
  | 35 => rfl
  | 36 => rfl
  | 37 => rfl
  | 38 => rfl
  | 39 => rfl
  | 40 => rfl
  | 41 => rfl
  | 42 => rfl
  | 43 => rfl
  | 44 => rfl
  | 45 => rfl
  | 46 => rfl
  | 47 => rfl
  | 48 => rfl
  | 49 => rfl
  | 50 => rfl
  | 51 => rfl
  | 52 => rfl
  | 53 => rfl
  | 54 => rfl
  | 55 => rfl
  | j + 56 =>
    show (if j + 56 = 36 then _ else _) = _
    rw [if_neg (by omega)]
    rfl
theorem hs_36_18 (IA : Nat → Nat → Int32) (LA : Nat → Nat → Int64) (RA : Nat → Nat → Option Nat) (SC : Nat → Nat → Int32) (dr : Nat) (tl : Nat → va_E) (x : Int32) : va_up (HC IA LA RA SC dr tl) 36 (.inr (8, [.ref 37, .ref 38, .int (SC 36 2), .ref 39, .ref 40, .ref 41, .ref 42, .ref 43, .ref 44, .ref 45, .ref 46, .ref 47, .ref 48, .ref 49, .ref 50, .ref 51, .int (SC 36 16), .ref 52, .int x, .int (SC 36 19), .int (SC 36 20), .int (SC 36 21), .int (SC 36 22), .ref 53, .ref 54])) = HC IA LA RA (va_up SC 36 (upd (SC 36) 18 x)) dr tl := by
  funext j
  match j with
  | 0 => rfl
  | 1 => rfl
  | 2 => rfl
  | 3 => rfl
  | 4 => rfl
  | 5 => rfl
  | 6 => rfl
  | 7 => rfl
  | 8 => rfl
  | 9 => rfl
  | 10 => rfl
  | 11 => rfl
  | 12 => rfl
  | 13 => rfl
  | 14 => rfl
  | 15 => rfl
  | 16 => rfl
  | 17 => rfl
  | 18 => rfl
  | 19 => rfl
  | 20 => rfl
  | 21 => rfl
  | 22 => rfl
  | 23 => rfl
  | 24 => rfl
  | 25 => rfl
  | 26 => rfl
  | 27 => rfl
  | 28 => rfl
  | 29 => rfl
  | 30 => rfl
  | 31 => rfl
  | 32 => rfl
  | 33 => rfl
  | 34 => rfl
  | 35 => rfl
  | 36 => rfl
  | 37 => rfl
  | 38 => rfl
  | 39 => rfl
  | 40 => rfl
  | 41 => rfl
  | 42 => rfl
  | 43 => rfl
  | 44 => rfl
  | 45 => rfl
  | 46 => rfl
  | 47 => rfl
  | 48 => rfl
  | 49 => rfl
  | 50 => rfl
  | 51 => rfl
  | 52 => rfl
  | 53 => rfl
  | 54 => rfl
  | 55 => rfl
  | j + 56 =>
    show (if j + 56 = 36 then _ else _) = _
    rw [if_neg (by omega)]
    rfl
theorem hs_36_19 (IA : Nat → Nat → Int32) (LA : Nat → Nat → Int64) (RA : Nat → Nat → Option Nat) (SC : Nat → Nat → Int32) (dr : Nat) (tl : Nat → va_E) (x : Int32) : va_up (HC IA LA RA SC dr tl) 36 (.inr (8, [.ref 37, .ref 38, .int (SC 36 2), .ref 39, .ref 40, .ref 41, .ref 42, .ref 43, .ref 44, .ref 45, .ref 46, .ref 47, .ref 48, .ref 49, .ref 50, .ref 51, .int (SC 36 16), .ref 52, .int (SC 36 18), .int x, .int (SC 36 20), .int (SC 36 21), .int (SC 36 22), .ref 53, .ref 54])) = HC IA LA RA (va_up SC 36 (upd (SC 36) 19 x)) dr tl := by
  funext j
  match j with
  | 0 => rfl
  | 1 => rfl
  | 2 => rfl
  | 3 => rfl
  | 4 => rfl
  | 5 => rfl
  | 6 => rfl
  | 7 => rfl
  | 8 => rfl
  | 9 => rfl
  | 10 => rfl
  | 11 => rfl
  | 12 => rfl
  | 13 => rfl
  | 14 => rfl
  | 15 => rfl
  | 16 => rfl
  | 17 => rfl
  | 18 => rfl
  | 19 => rfl
  | 20 => rfl
  | 21 => rfl
  | 22 => rfl
  | 23 => rfl
  | 24 => rfl
  | 25 => rfl
  | 26 => rfl
  | 27 => rfl
  | 28 => rfl
  | 29 => rfl
  | 30 => rfl
  | 31 => rfl
  | 32 => rfl
  | 33 => rfl
  | 34 => rfl
  | 35 => rfl
  | 36 => rfl
  | 37 => rfl
  | 38 => rfl
  | 39 => rfl
  | 40 => rfl
  | 41 => rfl
  | 42 => rfl
  | 43 => rfl
  | 44 => rfl
  | 45 => rfl
  | 46 => rfl
  | 47 => rfl
  | 48 => rfl
  | 49 => rfl
  | 50 => rfl
  | 51 => rfl
  | 52 => rfl
  | 53 => rfl
  | 54 => rfl
  | 55 => rfl
  | j + 56 =>
    show (if j + 56 = 36 then _ else _) = _
    rw [if_neg (by omega)]
    rfl
theorem hs_36_20 (IA : Nat → Nat → Int32) (LA : Nat → Nat → Int64) (RA : Nat → Nat → Option Nat) (SC : Nat → Nat → Int32) (dr : Nat) (tl : Nat → va_E) (x : Int32) : va_up (HC IA LA RA SC dr tl) 36 (.inr (8, [.ref 37, .ref 38, .int (SC 36 2), .ref 39, .ref 40, .ref 41, .ref 42, .ref 43, .ref 44, .ref 45, .ref 46, .ref 47, .ref 48, .ref 49, .ref 50, .ref 51, .int (SC 36 16), .ref 52, .int (SC 36 18), .int (SC 36 19), .int x, .int (SC 36 21), .int (SC 36 22), .ref 53, .ref 54])) = HC IA LA RA (va_up SC 36 (upd (SC 36) 20 x)) dr tl := by
  funext j
  match j with
  | 0 => rfl
  | 1 => rfl
  | 2 => rfl
  | 3 => rfl
  | 4 => rfl
  | 5 => rfl
  | 6 => rfl
  | 7 => rfl
  | 8 => rfl
  | 9 => rfl
  | 10 => rfl
  | 11 => rfl
  | 12 => rfl
  | 13 => rfl
  | 14 => rfl
  | 15 => rfl
  | 16 => rfl
  | 17 => rfl
  | 18 => rfl
  | 19 => rfl
  | 20 => rfl
  | 21 => rfl
  | 22 => rfl
  | 23 => rfl
  | 24 => rfl
  | 25 => rfl
  | 26 => rfl
  | 27 => rfl
  | 28 => rfl
  | 29 => rfl
  | 30 => rfl
  | 31 => rfl
  | 32 => rfl
  | 33 => rfl
  | 34 => rfl
  | 35 => rfl
  | 36 => rfl
  | 37 => rfl
  | 38 => rfl
  | 39 => rfl
  | 40 => rfl
  | 41 => rfl
  | 42 => rfl
  | 43 => rfl
  | 44 => rfl
  | 45 => rfl
  | 46 => rfl
  | 47 => rfl
  | 48 => rfl
  | 49 => rfl
  | 50 => rfl
  | 51 => rfl
  | 52 => rfl
  | 53 => rfl
  | 54 => rfl
  | 55 => rfl
  | j + 56 =>
    show (if j + 56 = 36 then _ else _) = _
    rw [if_neg (by omega)]
    rfl
theorem hs_36_21 (IA : Nat → Nat → Int32) (LA : Nat → Nat → Int64) (RA : Nat → Nat → Option Nat) (SC : Nat → Nat → Int32) (dr : Nat) (tl : Nat → va_E) (x : Int32) : va_up (HC IA LA RA SC dr tl) 36 (.inr (8, [.ref 37, .ref 38, .int (SC 36 2), .ref 39, .ref 40, .ref 41, .ref 42, .ref 43, .ref 44, .ref 45, .ref 46, .ref 47, .ref 48, .ref 49, .ref 50, .ref 51, .int (SC 36 16), .ref 52, .int (SC 36 18), .int (SC 36 19), .int (SC 36 20), .int x, .int (SC 36 22), .ref 53, .ref 54])) = HC IA LA RA (va_up SC 36 (upd (SC 36) 21 x)) dr tl := by
  funext j
  match j with
  | 0 => rfl
  | 1 => rfl
  | 2 => rfl
  | 3 => rfl
  | 4 => rfl
  | 5 => rfl
  | 6 => rfl
  | 7 => rfl
  | 8 => rfl
  | 9 => rfl
  | 10 => rfl
  | 11 => rfl
  | 12 => rfl
  | 13 => rfl
  | 14 => rfl
  | 15 => rfl
  | 16 => rfl
  | 17 => rfl
  | 18 => rfl
  | 19 => rfl
  | 20 => rfl
  | 21 => rfl
  | 22 => rfl
  | 23 => rfl
  | 24 => rfl
  | 25 => rfl
  | 26 => rfl
  | 27 => rfl
  | 28 => rfl
  | 29 => rfl
  | 30 => rfl
  | 31 => rfl
  | 32 => rfl
  | 33 => rfl
  | 34 => rfl
  | 35 => rfl
  | 36 => rfl
  | 37 => rfl
  | 38 => rfl
  | 39 => rfl
  | 40 => rfl
  | 41 => rfl
  | 42 => rfl
  | 43 => rfl
  | 44 => rfl
  | 45 => rfl
  | 46 => rfl
  | 47 => rfl
  | 48 => rfl
  | 49 => rfl
  | 50 => rfl
  | 51 => rfl
  | 52 => rfl
  | 53 => rfl
  | 54 => rfl
  | 55 => rfl
  | j + 56 =>
    show (if j + 56 = 36 then _ else _) = _
    rw [if_neg (by omega)]
    rfl
theorem hs_36_22 (IA : Nat → Nat → Int32) (LA : Nat → Nat → Int64) (RA : Nat → Nat → Option Nat) (SC : Nat → Nat → Int32) (dr : Nat) (tl : Nat → va_E) (x : Int32) : va_up (HC IA LA RA SC dr tl) 36 (.inr (8, [.ref 37, .ref 38, .int (SC 36 2), .ref 39, .ref 40, .ref 41, .ref 42, .ref 43, .ref 44, .ref 45, .ref 46, .ref 47, .ref 48, .ref 49, .ref 50, .ref 51, .int (SC 36 16), .ref 52, .int (SC 36 18), .int (SC 36 19), .int (SC 36 20), .int (SC 36 21), .int x, .ref 53, .ref 54])) = HC IA LA RA (va_up SC 36 (upd (SC 36) 22 x)) dr tl := by
  funext j
  match j with
  | 0 => rfl
  | 1 => rfl
  | 2 => rfl
  | 3 => rfl
  | 4 => rfl
  | 5 => rfl
  | 6 => rfl
  | 7 => rfl
  | 8 => rfl
  | 9 => rfl
  | 10 => rfl
  | 11 => rfl
  | 12 => rfl
  | 13 => rfl
  | 14 => rfl
  | 15 => rfl
  | 16 => rfl
  | 17 => rfl
  | 18 => rfl
  | 19 => rfl
  | 20 => rfl
  | 21 => rfl
  | 22 => rfl
  | 23 => rfl
  | 24 => rfl
  | 25 => rfl
  | 26 => rfl
  | 27 => rfl
  | 28 => rfl
  | 29 => rfl
  | 30 => rfl
  | 31 => rfl
  | 32 => rfl
  | 33 => rfl
  | 34 => rfl
  | 35 => rfl
  | 36 => rfl
  | 37 => rfl
  | 38 => rfl
  | 39 => rfl
  | 40 => rfl
  | 41 => rfl
  | 42 => rfl
  | 43 => rfl
  | 44 => rfl
  | 45 => rfl
  | 46 => rfl
  | 47 => rfl
  | 48 => rfl
  | 49 => rfl
  | 50 => rfl
  | 51 => rfl
  | 52 => rfl
  | 53 => rfl
  | 54 => rfl
  | 55 => rfl
  | j + 56 =>
    show (if j + 56 = 36 then _ else _) = _
    rw [if_neg (by omega)]
    rfl
theorem ht_16 (IA : Nat → Nat → Int32) (LA : Nat → Nat → Int64) (RA : Nat → Nat → Option Nat) (SC : Nat → Nat → Int32) (dr : Nat) (tl : Nat → va_E) (e : va_E) : va_up (HC IA LA RA SC dr tl) 16 (e) = HC IA LA RA SC dr (va_up tl 16 e) := by
  funext j
  match j with
  | 0 => rfl
  | 1 => rfl
  | 2 => rfl
  | 3 => rfl
  | 4 => rfl
  | 5 => rfl
  | 6 => rfl
  | 7 => rfl
  | 8 => rfl
  | 9 => rfl
  | 10 => rfl
  | 11 => rfl
  | 12 => rfl
  | 13 => rfl
  | 14 => rfl
  | 15 => rfl
  | 16 => rfl
  | 17 => rfl
  | 18 => rfl
  | 19 => rfl
  | 20 => rfl
  | 21 => rfl
  | 22 => rfl
  | 23 => rfl
  | 24 => rfl
  | 25 => rfl
  | 26 => rfl
  | 27 => rfl
  | 28 => rfl
  | 29 => rfl
  | 30 => rfl
  | 31 => rfl
  | 32 => rfl
  | 33 => rfl
  | 34 => rfl
  | 35 => rfl
  | 36 => rfl
  | 37 => rfl
  | 38 => rfl
  | 39 => rfl
  | 40 => rfl
  | 41 => rfl
  | 42 => rfl
  | 43 => rfl
  | 44 => rfl
  | 45 => rfl
  | 46 => rfl
  | 47 => rfl
  | 48 => rfl
  | 49 => rfl
  | 50 => rfl
  | 51 => rfl
  | 52 => rfl
  | 53 => rfl
  | 54 => rfl
  | 55 => rfl
  | j + 56 =>
    show (if j + 56 = 16 then _ else _) = _
    rw [if_neg (by omega)]
    rfl
theorem ht_17 (IA : Nat → Nat → Int32) (LA : Nat → Nat → Int64) (RA : Nat → Nat → Option Nat) (SC : Nat → Nat → Int32) (dr : Nat) (tl : Nat → va_E) (e : va_E) : va_up (HC IA LA RA SC dr tl) 17 (e) = HC IA LA RA SC dr (va_up tl 17 e) := by
  funext j
  match j with
  | 0 => rfl
  | 1 => rfl
  | 2 => rfl
  | 3 => rfl
  | 4 => rfl
  | 5 => rfl
  | 6 => rfl
  | 7 => rfl
  | 8 => rfl
  | 9 => rfl
  | 10 => rfl
  | 11 => rfl
  | 12 => rfl
  | 13 => rfl
  | 14 => rfl
  | 15 => rfl
  | 16 => rfl
  | 17 => rfl
  | 18 => rfl
  | 19 => rfl
  | 20 => rfl
  | 21 => rfl
  | 22 => rfl
  | 23 => rfl
  | 24 => rfl
  | 25 => rfl
  | 26 => rfl
  | 27 => rfl
  | 28 => rfl
  | 29 => rfl
  | 30 => rfl
  | 31 => rfl
  | 32 => rfl
  | 33 => rfl
  | 34 => rfl
  | 35 => rfl
  | 36 => rfl
  | 37 => rfl
  | 38 => rfl
  | 39 => rfl
  | 40 => rfl
  | 41 => rfl
  | 42 => rfl
  | 43 => rfl
  | 44 => rfl
  | 45 => rfl
  | 46 => rfl
  | 47 => rfl
  | 48 => rfl
  | 49 => rfl
  | 50 => rfl
  | 51 => rfl
  | 52 => rfl
  | 53 => rfl
  | 54 => rfl
  | 55 => rfl
  | j + 56 =>
    show (if j + 56 = 17 then _ else _) = _
    rw [if_neg (by omega)]
    rfl
theorem ht_18 (IA : Nat → Nat → Int32) (LA : Nat → Nat → Int64) (RA : Nat → Nat → Option Nat) (SC : Nat → Nat → Int32) (dr : Nat) (tl : Nat → va_E) (e : va_E) : va_up (HC IA LA RA SC dr tl) 18 (e) = HC IA LA RA SC dr (va_up tl 18 e) := by
  funext j
  match j with
  | 0 => rfl
  | 1 => rfl
  | 2 => rfl
  | 3 => rfl
  | 4 => rfl
  | 5 => rfl
  | 6 => rfl
  | 7 => rfl
  | 8 => rfl
  | 9 => rfl
  | 10 => rfl
  | 11 => rfl
  | 12 => rfl
  | 13 => rfl
  | 14 => rfl
  | 15 => rfl
  | 16 => rfl
  | 17 => rfl
  | 18 => rfl
  | 19 => rfl
  | 20 => rfl
  | 21 => rfl
  | 22 => rfl
  | 23 => rfl
  | 24 => rfl
  | 25 => rfl
  | 26 => rfl
  | 27 => rfl
  | 28 => rfl
  | 29 => rfl
  | 30 => rfl
  | 31 => rfl
  | 32 => rfl
  | 33 => rfl
  | 34 => rfl
  | 35 => rfl
  | 36 => rfl
  | 37 => rfl
  | 38 => rfl
  | 39 => rfl
  | 40 => rfl
  | 41 => rfl
  | 42 => rfl
  | 43 => rfl
  | 44 => rfl
  | 45 => rfl
  | 46 => rfl
  | 47 => rfl
  | 48 => rfl
  | 49 => rfl
  | 50 => rfl
  | 51 => rfl
  | 52 => rfl
  | 53 => rfl
  | 54 => rfl
  | 55 => rfl
  | j + 56 =>
    show (if j + 56 = 18 then _ else _) = _
    rw [if_neg (by omega)]
    rfl
theorem hc_big (IA : Nat → Nat → Int32) (LA : Nat → Nat → Int64) (RA : Nat → Nat → Option Nat) (SC : Nat → Nat → Int32) (dr : Nat) (tl : Nat → va_E) {k : Nat} (hk : 56 ≤ k) : HC IA LA RA SC dr tl k = tl k := by
  obtain ⟨j, rfl⟩ : ∃ j, k = j + 56 := ⟨k - 56, by omega⟩
  rfl
theorem ht_big (IA : Nat → Nat → Int32) (LA : Nat → Nat → Int64) (RA : Nat → Nat → Option Nat) (SC : Nat → Nat → Int32) (dr : Nat) (tl : Nat → va_E) (e : va_E) {k : Nat} (hk : 56 ≤ k) : va_up (HC IA LA RA SC dr tl) k e = HC IA LA RA SC dr (va_up tl k e) := by
  funext j
  match j with
  | 0 => show (if 0 = k then _ else _) = _; rw [if_neg (by omega)]; rfl
  | 1 => show (if 1 = k then _ else _) = _; rw [if_neg (by omega)]; rfl
  | 2 => show (if 2 = k then _ else _) = _; rw [if_neg (by omega)]; rfl
  | 3 => show (if 3 = k then _ else _) = _; rw [if_neg (by omega)]; rfl
  | 4 => show (if 4 = k then _ else _) = _; rw [if_neg (by omega)]; rfl
  | 5 => show (if 5 = k then _ else _) = _; rw [if_neg (by omega)]; rfl
  | 6 => show (if 6 = k then _ else _) = _; rw [if_neg (by omega)]; rfl
  | 7 => show (if 7 = k then _ else _) = _; rw [if_neg (by omega)]; rfl
  | 8 => show (if 8 = k then _ else _) = _; rw [if_neg (by omega)]; rfl
  | 9 => show (if 9 = k then _ else _) = _; rw [if_neg (by omega)]; rfl
  | 10 => show (if 10 = k then _ else _) = _; rw [if_neg (by omega)]; rfl
  | 11 => show (if 11 = k then _ else _) = _; rw [if_neg (by omega)]; rfl
  | 12 => show (if 12 = k then _ else _) = _; rw [if_neg (by omega)]; rfl
  | 13 => show (if 13 = k then _ else _) = _; rw [if_neg (by omega)]; rfl
  | 14 => show (if 14 = k then _ else _) = _; rw [if_neg (by omega)]; rfl
  | 15 => show (if 15 = k then _ else _) = _; rw [if_neg (by omega)]; rfl
  | 16 => show (if 16 = k then _ else tl 16) = (if 16 = k then e else tl 16); rfl
  | 17 => show (if 17 = k then _ else tl 17) = (if 17 = k then e else tl 17); rfl
  | 18 => show (if 18 = k then _ else tl 18) = (if 18 = k then e else tl 18); rfl
  | 19 => show (if 19 = k then _ else _) = _; rw [if_neg (by omega)]; rfl
  | 20 => show (if 20 = k then _ else _) = _; rw [if_neg (by omega)]; rfl
  | 21 => show (if 21 = k then _ else _) = _; rw [if_neg (by omega)]; rfl
  | 22 => show (if 22 = k then _ else _) = _; rw [if_neg (by omega)]; rfl
  | 23 => show (if 23 = k then _ else _) = _; rw [if_neg (by omega)]; rfl
  | 24 => show (if 24 = k then _ else _) = _; rw [if_neg (by omega)]; rfl
  | 25 => show (if 25 = k then _ else _) = _; rw [if_neg (by omega)]; rfl
  | 26 => show (if 26 = k then _ else _) = _; rw [if_neg (by omega)]; rfl
  | 27 => show (if 27 = k then _ else _) = _; rw [if_neg (by omega)]; rfl
  | 28 => show (if 28 = k then _ else _) = _; rw [if_neg (by omega)]; rfl
  | 29 => show (if 29 = k then _ else _) = _; rw [if_neg (by omega)]; rfl
  | 30 => show (if 30 = k then _ else _) = _; rw [if_neg (by omega)]; rfl
  | 31 => show (if 31 = k then _ else _) = _; rw [if_neg (by omega)]; rfl
  | 32 => show (if 32 = k then _ else _) = _; rw [if_neg (by omega)]; rfl
  | 33 => show (if 33 = k then _ else _) = _; rw [if_neg (by omega)]; rfl
  | 34 => show (if 34 = k then _ else _) = _; rw [if_neg (by omega)]; rfl
  | 35 => show (if 35 = k then _ else _) = _; rw [if_neg (by omega)]; rfl
  | 36 => show (if 36 = k then _ else _) = _; rw [if_neg (by omega)]; rfl
  | 37 => show (if 37 = k then _ else _) = _; rw [if_neg (by omega)]; rfl
  | 38 => show (if 38 = k then _ else _) = _; rw [if_neg (by omega)]; rfl
  | 39 => show (if 39 = k then _ else _) = _; rw [if_neg (by omega)]; rfl
  | 40 => show (if 40 = k then _ else _) = _; rw [if_neg (by omega)]; rfl
  | 41 => show (if 41 = k then _ else _) = _; rw [if_neg (by omega)]; rfl
  | 42 => show (if 42 = k then _ else _) = _; rw [if_neg (by omega)]; rfl
  | 43 => show (if 43 = k then _ else _) = _; rw [if_neg (by omega)]; rfl
  | 44 => show (if 44 = k then _ else _) = _; rw [if_neg (by omega)]; rfl
  | 45 => show (if 45 = k then _ else _) = _; rw [if_neg (by omega)]; rfl
  | 46 => show (if 46 = k then _ else _) = _; rw [if_neg (by omega)]; rfl
  | 47 => show (if 47 = k then _ else _) = _; rw [if_neg (by omega)]; rfl
  | 48 => show (if 48 = k then _ else _) = _; rw [if_neg (by omega)]; rfl
  | 49 => show (if 49 = k then _ else _) = _; rw [if_neg (by omega)]; rfl
  | 50 => show (if 50 = k then _ else _) = _; rw [if_neg (by omega)]; rfl
  | 51 => show (if 51 = k then _ else _) = _; rw [if_neg (by omega)]; rfl
  | 52 => show (if 52 = k then _ else _) = _; rw [if_neg (by omega)]; rfl
  | 53 => show (if 53 = k then _ else _) = _; rw [if_neg (by omega)]; rfl
  | 54 => show (if 54 = k then _ else _) = _; rw [if_neg (by omega)]; rfl
  | 55 => show (if 55 = k then _ else _) = _; rw [if_neg (by omega)]; rfl
  | j + 56 =>
    show (if j + 56 = k then e else tl (j + 56)) = (if j + 56 = k then e else tl (j + 56))
    rfl
