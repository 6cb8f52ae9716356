/-! ===== the shape of all that is made: u tells the images: 0 none, 1 the first, 2 the second, 3 the first then the second, 4 the second then the first ===== -/
def zim : Nat → List (Option Nat)
  | 0 => [none, none]
  | 1 => [some 61, none]
  | 2 => [none, some 61]
  | 3 => [some 61, some 75]
  | _ => [some 75, some 61]
def zwa : ZS := [(10, 0, [some 62, some 65, none, some 69, some 70, none, some 71, some 72, some 73, some 74]), (5, 0, [none, none, some 63, some 64]), (13, 16, []), (13, 6, []), (8, 0, [none, none, none, none, none, some 66, some 67, some 68]), (13, 8, []), (13, 8, []), (13, 8, []), (13, 5, []), (13, 5, []), (13, 6, []), (13, 6, []), (13, 6, []), (13, 6, [])]
def zwb : ZS := [(10, 0, [some 76, some 79, none, some 83, some 84, none, some 85, some 86, some 87, some 88]), (5, 0, [none, none, some 77, some 78]), (13, 16, []), (13, 6, []), (8, 0, [none, none, none, none, none, some 80, some 81, some 82]), (13, 8, []), (13, 8, []), (13, 8, []), (13, 5, []), (13, 5, []), (13, 6, []), (13, 6, []), (13, 6, []), (13, 6, [])]
def ztail : Nat → ZS
  | 0 => []
  | 1 => zwa
  | 2 => zwa
  | _ => zwa ++ zwb
def shp (u : Nat) : ZS := (11, 0, [some 1, some 2, some 16, some 30, some 31, some 33, some 37, some 41, none, none, none, none, none]) :: (16, 6, [some 42, some 43, some 44, some 45, some 46, some 47]) :: (10, 0, [some 3, some 6, none, some 10, some 11, none, some 12, some 13, some 14, some 15]) :: (5, 0, [none, none, some 4, some 5]) :: (13, 16, []) :: (13, 6, []) :: (8, 0, [none, none, none, none, none, some 7, some 8, some 9]) :: (13, 8, []) :: (13, 8, []) :: (13, 8, []) :: (13, 5, []) :: (13, 5, []) :: (13, 6, []) :: (13, 6, []) :: (13, 6, []) :: (13, 6, []) :: (10, 0, [some 17, some 20, none, some 24, some 25, none, some 26, some 27, some 28, some 29]) :: (5, 0, [none, none, some 18, some 19]) :: (13, 16, []) :: (13, 6, []) :: (8, 0, [none, none, none, none, none, some 21, some 22, some 23]) :: (13, 8, []) :: (13, 8, []) :: (13, 8, []) :: (13, 5, []) :: (13, 5, []) :: (13, 6, []) :: (13, 6, []) :: (13, 6, []) :: (13, 6, []) :: (17, 2, zim u) :: (4, 0, [some 32, none, none, none, none]) :: (13, 150, []) :: (8, 0, [none, none, none, none, none, some 34, some 35, some 36]) :: (13, 8, []) :: (13, 8, []) :: (13, 8, []) :: (9, 0, [some 38, some 39, some 40]) :: (13, 2250, []) :: (14, 25, []) :: (14, 25, []) :: (13, 16, []) :: (3, 0, []) :: (7, 0, []) :: (6, 0, []) :: (0, 0, []) :: (2, 0, []) :: (1, 0, []) :: (12, 0, [some 49, some 50, some 51, some 52, none, none, some 53, none, none, none, some 54, some 55, some 56, some 57, some 58, none, none, none, none, none, some 59, some 60]) :: (13, 98, []) :: (13, 196, []) :: (15, 2, []) :: (13, 3, []) :: (13, 16, []) :: (13, 2400, []) :: (13, 16, []) :: (14, 25, []) :: (14, 25, []) :: (13, 150, []) :: (13, 66, []) :: (13, 2, []) :: ztail u
