/-! THE STEADY WORLD: the cells of the class (0 .. 77), of the reference (78 .. 192), and the law's own array (193), as their constructors make them -/
def zT0 : List (List (Nat × Nat)) := [[(1, 11), (1, 4), (2, 900), (2, 900), (2, 900), (2, 900), (2, 900), (2, 900), (2, 900), (1, 10), (2, 300), (2, 90), (2, 24), (1, 10), (2, 300), (2, 90)], [(2, 24), (1, 1), (2, 30), (1, 5), (4, 30), (2, 30), (2, 30), (2, 30), (2, 30), (2, 30), (2, 30), (1, 9), (1, 10), (2, 300), (2, 90), (2, 24)], [(2, 30), (2, 180), (2, 30), (2, 30), (1, 8), (2, 3), (2, 3), (2, 3), (2, 4), (2, 4), (2, 3), (1, 3), (2, 3), (2, 3), (2, 3), (2, 3)], [(2, 3), (2, 3), (1, 10), (2, 300), (2, 90), (2, 24), (1, 2), (2, 4), (2, 4), (2, 192), (2, 6), (1, 7), (2, 6), (2, 6), (2, 6), (2, 6)], [(2, 6), (2, 6), (2, 6), (2, 6), (1, 6), (2, 30), (2, 30), (1, 0), (2, 512), (2, 512), (2, 512), (2, 512), (2, 8), (2, 8), (2, 60), (2, 30)], [(2, 6), (2, 10), (2, 3), (2, 60), (2, 18)]]
def zG0 : List (List (List (Option Nat))) := [[[some 1, some 9, some 13, some 17, some 19, some 27, some 36, some 43, some 54, some 59, some 68, some 71, some 76, some 77], [some 2, some 3, some 4, some 5, some 6, some 7, some 8], [], [], [], [], [], [], [], [some 10, some 11, some 12], [], [], [], [some 14, some 15, some 16], [], []], [[], [some 18, some 19, some 27, some 36], [], [some 20, some 21, some 22, some 23, some 24, some 25, some 26], [], [], [], [], [], [], [], [some 28, some 32, some 33, some 34, some 35], [some 29, some 30, some 31], [], [], []], [[], [], [], [], [some 37, some 38, some 39, some 40, some 41, some 42, some 43], [], [], [], [], [], [], [some 44, some 45, some 46, some 47, some 48, some 49], [], [], [], []], [[], [], [some 51, some 52, some 53], [], [], [], [some 55, some 56, some 57, some 58], [], [], [], [], [some 60, some 61, some 62, some 63, some 64, some 65, some 66, some 67], [], [], [], []], [[], [], [], [], [some 69, some 70], [], [], [some 72, some 73, some 74, some 75], [], [], [], [], [], [], [], []], [[], [], [], [], []]]
def zT (T' : Nat → Nat × Nat) (k : Nat) : Nat × Nat := match (zT0.getD (k / 16) [])[k % 16]? with
  | some s => s
  | none => T' k
def zG (G' : Nat → Nat → Option Nat) (k j : Nat) : Option Nat := match ((zG0.getD (k / 16) []).getD (k % 16) []).getD j none with
  | some v => some v
  | none => G' k j
abbrev zW (T' : Nat → Nat × Nat) (G' : Nat → Nat → Option Nat) (S : Nat → Nat → Int32) (n : Nat) : z_W := (zT T', zG G', S, n)
/-- it returns just that, with just that memory -/
def zq (v0 : Option z_V) (w0 : z_W) : Option z_V → z_W → Prop := fun v w => v = v0 ∧ w = w0
/-- the room of a method that calls d deep and makes nothing; .. that may throw c times -/
def zr (d : Nat) : Room := { frames := d, cells := 0, slots := 0, locals := 40 * d }
def zx (d c : Nat) : Room := { frames := d, cells := c, slots := 6 * c, locals := 60 * d }

