/-! THE MEMORY: the cells of both objects lie in a fixed order from lo on; what varies are ints and longs, by cell and place -/
abbrev mm_M : Type := (Nat → Nat → Int32) × (Nat → Nat → Int64)
def mm_b0 (ac : Nat → ClassId) (lo k : Nat) (f : Nat → Int32) (g : Nat → Int64) : Option va_E := (bif Nat.blt k 8 then (bif Nat.blt k 4 then (bif Nat.blt k 2 then (bif Nat.blt k 1 then some (.inr (11, [.ref (lo + 1), .ref (lo + 2), .ref (lo + 9), .ref (lo + 17), .ref (lo + 25), .ref (lo + 29), .ref (lo + 33), .ref (lo + 36), .ref (lo + 39), .ref (lo + 46), .ref (lo + 57), .ref (lo + 70), .ref (lo + 83), .ref (lo + 104), .int (f 14), .int (f 15), .int (f 16), .int (f 17), .int (f 18)])) else some (.inl (ac 4, 400, .inl f))) else (bif Nat.blt k 3 then some (.inr (5, [.ref (lo + 3), .ref (lo + 4), .ref (lo + 5), .ref (lo + 6), .ref (lo + 7), .ref (lo + 8), (bif f 6 == 0 then .null else .ref (lo + 1)), .int (f 7), .int (f 8), .int (f 9), .int (f 10), .int (f 11), .int (f 12), .int (f 13), .int (f 14), .int (f 15), .int (f 16), .int (f 17), .int (f 18), .int (f 19)])) else some (.inl (ac 0, 300, .inl f)))) else (bif Nat.blt k 6 then (bif Nat.blt k 5 then some (.inl (ac 0, 1200, .inl f)) else some (.inl (ac 0, 4, .inl f))) else (bif Nat.blt k 7 then some (.inl (ac 0, 4, .inl f)) else some (.inl (ac 0, 8, .inl f))))) else (bif Nat.blt k 12 then (bif Nat.blt k 10 then (bif Nat.blt k 9 then some (.inl (ac 0, 4, .inl f)) else some (.inr (0, [.ref (lo + 10), .ref (lo + 11), .ref (lo + 12), .ref (lo + 13), .ref (lo + 14), .ref (lo + 15), .ref (lo + 16), .int (f 7), .int (f 8), .int (f 9)]))) else (bif Nat.blt k 11 then some (.inl (ac 0, 6000, .inl f)) else some (.inl (ac 0, 20, .inl f)))) else (bif Nat.blt k 14 then (bif Nat.blt k 13 then some (.inl (ac 0, 20, .inl f)) else some (.inl (ac 0, 300, .inl f))) else (bif Nat.blt k 15 then some (.inl (ac 4, 64, .inl f)) else some (.inl (ac 0, 8, .inl f))))))
def mm_b1 (ac : Nat → ClassId) (lo k : Nat) (f : Nat → Int32) (g : Nat → Int64) : Option va_E := (bif Nat.blt k 24 then (bif Nat.blt k 20 then (bif Nat.blt k 18 then (bif Nat.blt k 17 then some (.inl (ac 0, 256, .inl f)) else some (.inr (4, [.ref (lo + 18), .ref (lo + 21), .ref (lo + 22), .ref (lo + 23), .ref (lo + 24), .int (f 5), .int (f 6), .int (f 7), .int (f 8), .int (f 9), .int (f 10), .long (g 11)]))) else (bif Nat.blt k 19 then some (.inr (6, [.ref (lo + 20), .ref (lo + 19), .int (f 2), .int (f 3)])) else some (.inl (ac 1, 4, .inr (.inl g))))) else (bif Nat.blt k 22 then (bif Nat.blt k 21 then some (.inl (ac 1, 1024, .inr (.inl g))) else some (.inl (ac 0, 16, .inl f))) else (bif Nat.blt k 23 then some (.inl (ac 0, 16, .inl f)) else some (.inl (ac 0, 256, .inl f))))) else (bif Nat.blt k 28 then (bif Nat.blt k 26 then (bif Nat.blt k 25 then some (.inl (ac 0, 256, .inl f)) else some (.inr (8, [.ref (lo + 26), .ref (lo + 27), .ref (lo + 28), .int (f 3), .int (f 4)]))) else (bif Nat.blt k 27 then some (.inl (ac 0, 20, .inl f)) else some (.inl (ac 0, 20, .inl f)))) else (bif Nat.blt k 30 then (bif Nat.blt k 29 then some (.inl (ac 0, 20, .inl f)) else some (.inr (8, [.ref (lo + 30), .ref (lo + 31), .ref (lo + 32), .int (f 3), .int (f 4)]))) else (bif Nat.blt k 31 then some (.inl (ac 0, 1, .inl f)) else some (.inl (ac 0, 1, .inl f))))))
def mm_b2 (ac : Nat → ClassId) (lo k : Nat) (f : Nat → Int32) (g : Nat → Int64) : Option va_E := (bif Nat.blt k 40 then (bif Nat.blt k 36 then (bif Nat.blt k 34 then (bif Nat.blt k 33 then some (.inl (ac 0, 1, .inl f)) else some (.inr (6, [.ref (lo + 35), .ref (lo + 34), .int (f 2), .int (f 3)]))) else (bif Nat.blt k 35 then some (.inl (ac 1, 4, .inr (.inl g))) else some (.inl (ac 1, 128, .inr (.inl g))))) else (bif Nat.blt k 38 then (bif Nat.blt k 37 then some (.inr (6, [.ref (lo + 38), .ref (lo + 37), .int (f 2), .int (f 3)])) else some (.inl (ac 1, 4, .inr (.inl g)))) else (bif Nat.blt k 39 then some (.inl (ac 1, 128, .inr (.inl g))) else some (.inr (10, [.ref (lo + 40), .ref (lo + 41), .ref (lo + 42), .ref (lo + 43), .ref (lo + 44), .ref (lo + 45), .int (f 6), .int (f 7), .int (f 8), .int (f 9), .long (g 10)]))))) else (bif Nat.blt k 44 then (bif Nat.blt k 42 then (bif Nat.blt k 41 then some (.inl (ac 1, 60, .inr (.inl g))) else some (.inl (ac 1, 60, .inr (.inl g)))) else (bif Nat.blt k 43 then some (.inl (ac 0, 60, .inl f)) else some (.inl (ac 0, 4, .inl f)))) else (bif Nat.blt k 46 then (bif Nat.blt k 45 then some (.inl (ac 0, 60, .inl f)) else some (.inl (ac 1, 4, .inr (.inl g)))) else (bif Nat.blt k 47 then some (.inr (3, [.ref (lo + 47), .ref (lo + 48), .ref (lo + 49), .ref (lo + 50), .ref (lo + 51), .ref (lo + 52), .ref (lo + 53), .ref (lo + 54), .ref (lo + 55), .ref (lo + 56), .int (f 10), .int (f 11), .int (f 12), .int (f 13), .int (f 14), .int (f 15), .int (f 16), .int (f 17)])) else some (.inl (ac 0, 8, .inl f))))))
def mm_b3 (ac : Nat → ClassId) (lo k : Nat) (f : Nat → Int32) (g : Nat → Int64) : Option va_E := (bif Nat.blt k 56 then (bif Nat.blt k 52 then (bif Nat.blt k 50 then (bif Nat.blt k 49 then some (.inl (ac 0, 8, .inl f)) else some (.inl (ac 0, 8, .inl f))) else (bif Nat.blt k 51 then some (.inl (ac 0, 8, .inl f)) else some (.inl (ac 0, 512, .inl f)))) else (bif Nat.blt k 54 then (bif Nat.blt k 53 then some (.inl (ac 0, 512, .inl f)) else some (.inl (ac 0, 256, .inl f))) else (bif Nat.blt k 55 then some (.inl (ac 0, 9, .inl f)) else some (.inl (ac 0, 9, .inl f))))) else (bif Nat.blt k 60 then (bif Nat.blt k 58 then (bif Nat.blt k 57 then some (.inl (ac 0, 9, .inl f)) else some (.inr (2, [.ref (lo + 58), .ref (lo + 62), .ref (lo + 63), .ref (lo + 64), .ref (lo + 65), .ref (lo + 66), .ref (lo + 67), .ref (lo + 68), .ref (lo + 69), .int (f 9), .int (f 10), .int (f 11), .int (f 12), .int (f 13), .int (f 14), .int (f 15)]))) else (bif Nat.blt k 59 then some (.inr (8, [.ref (lo + 59), .ref (lo + 60), .ref (lo + 61), .int (f 3), .int (f 4)])) else some (.inl (ac 0, 4, .inl f)))) else (bif Nat.blt k 62 then (bif Nat.blt k 61 then some (.inl (ac 0, 4, .inl f)) else some (.inl (ac 0, 4, .inl f))) else (bif Nat.blt k 63 then some (.inl (ac 0, 224, .inl f)) else some (.inl (ac 0, 720, .inl f))))))
def mm_b4 (ac : Nat → ClassId) (lo k : Nat) (f : Nat → Int32) (g : Nat → Int64) : Option va_E := (bif Nat.blt k 72 then (bif Nat.blt k 68 then (bif Nat.blt k 66 then (bif Nat.blt k 65 then some (.inl (ac 1, 720, .inr (.inl g))) else some (.inl (ac 0, 64, .inl f))) else (bif Nat.blt k 67 then some (.inl (ac 0, 301, .inl f)) else some (.inl (ac 4, 932, .inl f)))) else (bif Nat.blt k 70 then (bif Nat.blt k 69 then some (.inl (ac 0, 24, .inl f)) else some (.inl (ac 0, 24, .inl f))) else (bif Nat.blt k 71 then some (.inr (7, [.ref (lo + 71), .ref (lo + 72), .ref (lo + 73), .ref (lo + 74), .ref (lo + 75), .ref (lo + 76), .ref (lo + 77), .ref (lo + 78), .ref (lo + 79), .ref (lo + 80), .ref (lo + 81), .ref (lo + 82), .int (f 12), .int (f 13)])) else some (.inl (ac 0, 9, .inl f))))) else (bif Nat.blt k 76 then (bif Nat.blt k 74 then (bif Nat.blt k 73 then some (.inl (ac 0, 6, .inl f)) else some (.inl (ac 0, 301, .inl f))) else (bif Nat.blt k 75 then some (.inl (ac 0, 720, .inl f)) else some (.inl (ac 1, 2160, .inr (.inl g))))) else (bif Nat.blt k 78 then (bif Nat.blt k 77 then some (.inl (ac 0, 720, .inl f)) else some (.inl (ac 1, 6900, .inr (.inl g)))) else (bif Nat.blt k 79 then some (.inl (ac 0, 2048, .inl f)) else some (.inl (ac 1, 512, .inr (.inl g)))))))
def mm_b5 (ac : Nat → ClassId) (lo k : Nat) (f : Nat → Int32) (g : Nat → Int64) : Option va_E := (bif Nat.blt k 88 then (bif Nat.blt k 84 then (bif Nat.blt k 82 then (bif Nat.blt k 81 then some (.inl (ac 1, 512, .inr (.inl g))) else some (.inl (ac 0, 512, .inl f))) else (bif Nat.blt k 83 then some (.inl (ac 0, 512, .inl f)) else some (.inr (9, [.ref (lo + 84), .ref (lo + 88), .ref (lo + 92), .ref (lo + 96), .ref (lo + 97), .ref (lo + 98), .ref (lo + 99), .ref (lo + 100), .ref (lo + 101), .ref (lo + 102), .ref (lo + 103), .int (f 11)])))) else (bif Nat.blt k 86 then (bif Nat.blt k 85 then some (.inl (ac 5, 3, .inr (.inr (.inr (.inr (va_up (va_up (va_up (fun _ => none) 0 (some (lo + (85 + (f 0).toNatClampNeg)))) 1 (some (lo + (85 + (f 1).toNatClampNeg)))) 2 (some (lo + (85 + (f 2).toNatClampNeg))))))))) else some (.inl (ac 0, 150, .inl f))) else (bif Nat.blt k 87 then some (.inl (ac 0, 150, .inl f)) else some (.inl (ac 0, 150, .inl f))))) else (bif Nat.blt k 92 then (bif Nat.blt k 90 then (bif Nat.blt k 89 then some (.inl (ac 5, 3, .inr (.inr (.inr (.inr (va_up (va_up (va_up (fun _ => none) 0 (some (lo + (89 + (f 0).toNatClampNeg)))) 1 (some (lo + (89 + (f 1).toNatClampNeg)))) 2 (some (lo + (89 + (f 2).toNatClampNeg))))))))) else some (.inl (ac 0, 150, .inl f))) else (bif Nat.blt k 91 then some (.inl (ac 0, 150, .inl f)) else some (.inl (ac 0, 150, .inl f)))) else (bif Nat.blt k 94 then (bif Nat.blt k 93 then some (.inl (ac 5, 3, .inr (.inr (.inr (.inr (va_up (va_up (va_up (fun _ => none) 0 (some (lo + (93 + (f 0).toNatClampNeg)))) 1 (some (lo + (93 + (f 1).toNatClampNeg)))) 2 (some (lo + (93 + (f 2).toNatClampNeg))))))))) else some (.inl (ac 0, 150, .inl f))) else (bif Nat.blt k 95 then some (.inl (ac 0, 150, .inl f)) else some (.inl (ac 0, 150, .inl f))))))
def mm_b6 (ac : Nat → ClassId) (lo k : Nat) (f : Nat → Int32) (g : Nat → Int64) : Option va_E := (bif Nat.blt k 104 then (bif Nat.blt k 100 then (bif Nat.blt k 98 then (bif Nat.blt k 97 then some (.inl (ac 0, 3, .inl f)) else some (.inl (ac 0, 3, .inl f))) else (bif Nat.blt k 99 then some (.inl (ac 0, 150, .inl f)) else some (.inl (ac 1, 150, .inr (.inl g))))) else (bif Nat.blt k 102 then (bif Nat.blt k 101 then some (.inl (ac 1, 150, .inr (.inl g))) else some (.inl (ac 1, 256, .inr (.inl g)))) else (bif Nat.blt k 103 then some (.inl (ac 1, 256, .inr (.inl g))) else some (.inl (ac 0, 257, .inl f))))) else (bif Nat.blt k 108 then (bif Nat.blt k 106 then (bif Nat.blt k 105 then some (.inr (1, [.ref (lo + 105), .int (f 1), .int (f 2), .int (f 3)])) else some (.inr (6, [.ref (lo + 107), .ref (lo + 106), .int (f 2), .int (f 3)]))) else (bif Nat.blt k 107 then some (.inl (ac 1, 4, .inr (.inl g))) else some (.inl (ac 1, 256, .inr (.inl g))))) else (bif Nat.blt k 110 then (bif Nat.blt k 109 then some (.inr (12, [.int (f 0), .ref (lo + 109), .int (f 2), .int (f 3), .int (f 4), .int (f 5), .int (f 6), .ref (lo + 110), .ref (lo + 111), .ref (lo + 112), .ref (lo + 113), .ref (lo + 114), .ref (lo + 115), .ref (lo + 116), .ref (lo + 117), .ref (lo + 118), .ref (lo + 119), .int (f 17), .int (f 18), .int (f 19), .ref (lo + 120), .ref (lo + 121), .ref (lo + 122), .ref (lo + 123), .ref (lo + 124), .ref (lo + 125), .ref (lo + 126), .int (f 27), .ref (lo + 127), .ref (lo + 128), .ref (lo + 129), .ref (lo + 130), .int (f 32), .int (f 33), .int (f 34), .int (f 35), .int (f 36), .int (f 37), .int (f 38), .ref (lo + 131), .int (f 40), .ref (lo + 132), .ref (lo + 133), .ref (lo + 134), .ref (lo + 135), .int (f 45), .int (f 46), .int (f 47), .int (f 48), .int (f 49), .ref (lo + 136), .ref (lo + 137), .ref (lo + 138), .ref (lo + 139), .ref (lo + 140), .ref (lo + 141), .ref (lo + 142), .ref (lo + 143), .ref (lo + 144), .ref (lo + 145), .ref (lo + 146), .ref (lo + 147), .ref (lo + 148), .ref (lo + 149), .int (f 64), .int (f 65), .int (f 66), .int (f 67), .int (f 68), .long (g 69), .int (f 70), .int (f 71), .ref (lo + 150), .ref (lo + 151), .int (f 74), .ref (lo + 152), .ref (lo + 153), .int (f 77), .ref (lo + 154), .ref (lo + 155), .ref (lo + 156), .int (f 81), .ref (lo + 157), .ref (lo + 158), .ref (lo + 159), .int (f 85), .ref (lo + 160), .ref (lo + 161), .int (f 88), .int (f 89), .int (f 90), .ref (lo + 162), .ref (lo + 163), .ref (lo + 164), .ref (lo + 165), .ref (lo + 166), .ref (lo + 167), .ref (lo + 168), .int (f 98), .int (f 99), .int (f 100), .ref (lo + 169), .ref (lo + 170), .ref (lo + 171), .ref (lo + 172), .ref (lo + 173), .int (f 106), .ref (lo + 174), .ref (lo + 175), .int (f 109), .int (f 110), .int (f 111), .ref (lo + 176), .ref (lo + 177), .int (f 114), .int (f 115), .ref (lo + 178), .ref (lo + 179), .ref (lo + 180), .ref (lo + 181), .ref (lo + 182), .ref (lo + 183), .ref (lo + 184), .ref (lo + 185), .int (f 124), .ref (lo + 186), .ref (lo + 187), .ref (lo + 188), .ref (lo + 189), .int (f 129), .int (f 130), .int (f 131), .ref (lo + 190), .ref (lo + 191), .ref (lo + 192), .int (f 135), .ref (lo + 193), .ref (lo + 194), .ref (lo + 195), .int (f 139), .ref (lo + 196), .ref (lo + 197), .ref (lo + 198), .ref (lo + 199), .ref (lo + 200), .ref (lo + 201), .int (f 146), .int (f 147)])) else some (.inl (ac 0, 400, .inl f))) else (bif Nat.blt k 111 then some (.inl (ac 0, 21, .inl f)) else some (.inl (ac 0, 21, .inl f))))))
def mm_b7 (ac : Nat → ClassId) (lo k : Nat) (f : Nat → Int32) (g : Nat → Int64) : Option va_E := (bif Nat.blt k 120 then (bif Nat.blt k 116 then (bif Nat.blt k 114 then (bif Nat.blt k 113 then some (.inl (ac 0, 6300, .inl f)) else some (.inl (ac 0, 6300, .inl f))) else (bif Nat.blt k 115 then some (.inl (ac 0, 6300, .inl f)) else some (.inl (ac 0, 6300, .inl f)))) else (bif Nat.blt k 118 then (bif Nat.blt k 117 then some (.inl (ac 0, 6300, .inl f)) else some (.inl (ac 0, 6300, .inl f))) else (bif Nat.blt k 119 then some (.inl (ac 1, 5, .inr (.inl g))) else some (.inl (ac 1, 5, .inr (.inl g)))))) else (bif Nat.blt k 124 then (bif Nat.blt k 122 then (bif Nat.blt k 121 then some (.inl (ac 0, 401, .inl f)) else some (.inl (ac 0, 401, .inl f))) else (bif Nat.blt k 123 then some (.inl (ac 0, 401, .inl f)) else some (.inl (ac 0, 401, .inl f)))) else (bif Nat.blt k 126 then (bif Nat.blt k 125 then some (.inl (ac 2, 401, .inl f)) else some (.inl (ac 0, 401, .inl f))) else (bif Nat.blt k 127 then some (.inl (ac 0, 401, .inl f)) else some (.inl (ac 0, 401, .inl f))))))
def mm_b8 (ac : Nat → ClassId) (lo k : Nat) (f : Nat → Int32) (g : Nat → Int64) : Option va_E := (bif Nat.blt k 136 then (bif Nat.blt k 132 then (bif Nat.blt k 130 then (bif Nat.blt k 129 then some (.inl (ac 0, 4, .inl f)) else some (.inl (ac 0, 4, .inl f))) else (bif Nat.blt k 131 then some (.inl (ac 0, 4, .inl f)) else some (.inl (ac 0, 1640, .inl f)))) else (bif Nat.blt k 134 then (bif Nat.blt k 133 then some (.inl (ac 0, 18000, .inl f)) else some (.inl (ac 0, 8, .inl f))) else (bif Nat.blt k 135 then some (.inl (ac 2, 8, .inl f)) else some (.inl (ac 2, 256, .inl f))))) else (bif Nat.blt k 140 then (bif Nat.blt k 138 then (bif Nat.blt k 137 then some (.inl (ac 0, 11520, .inl f)) else some (.inl (ac 0, 11520, .inl f))) else (bif Nat.blt k 139 then some (.inl (ac 3, 11520, .inl f)) else some (.inl (ac 0, 32768, .inl f)))) else (bif Nat.blt k 142 then (bif Nat.blt k 141 then some (.inl (ac 0, 64, .inl f)) else some (.inl (ac 0, 2, .inl f))) else (bif Nat.blt k 143 then some (.inl (ac 0, 2, .inl f)) else some (.inl (ac 0, 300, .inl f))))))
def mm_b9 (ac : Nat → ClassId) (lo k : Nat) (f : Nat → Int32) (g : Nat → Int64) : Option va_E := (bif Nat.blt k 152 then (bif Nat.blt k 148 then (bif Nat.blt k 146 then (bif Nat.blt k 145 then some (.inl (ac 0, 300, .inl f)) else some (.inl (ac 0, 300, .inl f))) else (bif Nat.blt k 147 then some (.inl (ac 1, 65536, .inr (.inl g))) else some (.inl (ac 1, 65536, .inr (.inl g))))) else (bif Nat.blt k 150 then (bif Nat.blt k 149 then some (.inl (ac 2, 65536, .inl f)) else some (.inl (ac 0, 22501, .inl f))) else (bif Nat.blt k 151 then some (.inl (ac 1, 1280, .inr (.inl g))) else some (.inl (ac 1, 1280, .inr (.inl g)))))) else (bif Nat.blt k 156 then (bif Nat.blt k 154 then (bif Nat.blt k 153 then some (.inl (ac 1, 10, .inr (.inl g))) else some (.inl (ac 1, 5, .inr (.inl g)))) else (bif Nat.blt k 155 then some (.inl (ac 0, 16, .inl f)) else some (.inl (ac 0, 16, .inl f)))) else (bif Nat.blt k 158 then (bif Nat.blt k 157 then some (.inl (ac 0, 16, .inl f)) else some (.inl (ac 0, 20, .inl f))) else (bif Nat.blt k 159 then some (.inl (ac 0, 20, .inl f)) else some (.inl (ac 0, 20, .inl f))))))
def mm_b10 (ac : Nat → ClassId) (lo k : Nat) (f : Nat → Int32) (g : Nat → Int64) : Option va_E := (bif Nat.blt k 168 then (bif Nat.blt k 164 then (bif Nat.blt k 162 then (bif Nat.blt k 161 then some (.inl (ac 1, 320, .inr (.inl g))) else some (.inl (ac 1, 1280, .inr (.inl g)))) else (bif Nat.blt k 163 then some (.inl (ac 1, 320, .inr (.inl g))) else some (.inl (ac 1, 320, .inr (.inl g))))) else (bif Nat.blt k 166 then (bif Nat.blt k 165 then some (.inl (ac 2, 32768, .inl f)) else some (.inl (ac 0, 32768, .inl f))) else (bif Nat.blt k 167 then some (.inl (ac 0, 9, .inl f)) else some (.inl (ac 0, 512, .inl f))))) else (bif Nat.blt k 172 then (bif Nat.blt k 170 then (bif Nat.blt k 169 then some (.inl (ac 0, 512, .inl f)) else some (.inl (ac 2, 60, .inl f))) else (bif Nat.blt k 171 then some (.inl (ac 0, 60, .inl f)) else some (.inl (ac 0, 3600, .inl f)))) else (bif Nat.blt k 174 then (bif Nat.blt k 173 then some (.inl (ac 0, 4, .inl f)) else some (.inl (ac 2, 4, .inl f))) else (bif Nat.blt k 175 then some (.inl (ac 0, 60, .inl f)) else some (.inl (ac 0, 60, .inl f))))))
def mm_b11 (ac : Nat → ClassId) (lo k : Nat) (f : Nat → Int32) (g : Nat → Int64) : Option va_E := (bif Nat.blt k 184 then (bif Nat.blt k 180 then (bif Nat.blt k 178 then (bif Nat.blt k 177 then some (.inl (ac 0, 8, .inl f)) else some (.inl (ac 0, 8, .inl f))) else (bif Nat.blt k 179 then some (.inl (ac 0, 9, .inl f)) else some (.inl (ac 0, 9, .inl f)))) else (bif Nat.blt k 182 then (bif Nat.blt k 181 then some (.inl (ac 0, 9, .inl f)) else some (.inl (ac 3, 65536, .inl f))) else (bif Nat.blt k 183 then some (.inl (ac 0, 9, .inl f)) else some (.inl (ac 0, 9, .inl f))))) else (bif Nat.blt k 188 then (bif Nat.blt k 186 then (bif Nat.blt k 185 then some (.inl (ac 0, 9, .inl f)) else some (.inl (ac 0, 256, .inl f))) else (bif Nat.blt k 187 then some (.inl (ac 1, 20, .inr (.inl g))) else some (.inl (ac 1, 20, .inr (.inl g))))) else (bif Nat.blt k 190 then (bif Nat.blt k 189 then some (.inl (ac 1, 20, .inr (.inl g))) else some (.inl (ac 0, 1300, .inl f))) else (bif Nat.blt k 191 then some (.inl (ac 1, 480, .inr (.inl g))) else some (.inl (ac 0, 480, .inl f))))))
def mm_b12 (ac : Nat → ClassId) (lo k : Nat) (f : Nat → Int32) (g : Nat → Int64) : Option va_E := (bif Nat.blt k 200 then (bif Nat.blt k 196 then (bif Nat.blt k 194 then (bif Nat.blt k 193 then some (.inl (ac 0, 24, .inl f)) else some (.inl (ac 3, 40320, .inl f))) else (bif Nat.blt k 195 then some (.inl (ac 0, 40320, .inl f)) else some (.inl (ac 2, 36, .inl f)))) else (bif Nat.blt k 198 then (bif Nat.blt k 197 then some (.inl (ac 0, 6, .inl f)) else some (.inl (ac 0, 46656, .inl f))) else (bif Nat.blt k 199 then some (.inl (ac 0, 217000, .inl f)) else some (.inl (ac 0, 217000, .inl f))))) else (bif Nat.blt k 204 then (bif Nat.blt k 202 then (bif Nat.blt k 201 then some (.inl (ac 0, 217000, .inl f)) else some (.inl (ac 0, 217000, .inl f))) else (bif Nat.blt k 203 then some (.inl (ac 1, 1, .inr (.inl g))) else none)) else (bif Nat.blt k 206 then (bif Nat.blt k 205 then none else none) else (bif Nat.blt k 207 then none else none))))
def mm_sh (ac : Nat → ClassId) (lo k : Nat) (f : Nat → Int32) (g : Nat → Int64) : Option va_E := bif Nat.blt k 208 then (bif Nat.blt k 96 then (bif Nat.blt k 48 then (bif Nat.blt k 16 then mm_b0 ac lo k f g else (bif Nat.blt k 32 then mm_b1 ac lo k f g else mm_b2 ac lo k f g)) else (bif Nat.blt k 64 then mm_b3 ac lo k f g else (bif Nat.blt k 80 then mm_b4 ac lo k f g else mm_b5 ac lo k f g))) else (bif Nat.blt k 144 then (bif Nat.blt k 112 then mm_b6 ac lo k f g else (bif Nat.blt k 128 then mm_b7 ac lo k f g else mm_b8 ac lo k f g)) else (bif Nat.blt k 176 then (bif Nat.blt k 160 then mm_b9 ac lo k f g else mm_b10 ac lo k f g) else (bif Nat.blt k 192 then mm_b11 ac lo k f g else mm_b12 ac lo k f g)))) else none
def mm_i (M : mm_M) (k : Nat) (f : Nat → Int32) : mm_M := (fun q => if q = k then f else M.1 q, M.2)
def mm_l (M : mm_M) (k : Nat) (g : Nat → Int64) : mm_M := (M.1, fun q => if q = k then g else M.2 q)
/-- cells by a memory: reading, size, writing, another size -/
def mm_L (ac : Nat → ClassId) (lo : Nat) (hp : mm_M → Nat → xm_H) : Prop :=
  (∀ M z k, (hp M z).1 (lo + k) = mm_sh ac lo k (M.1 k) (M.2 k)) ∧ (∀ M z, (hp M z).2 = z) ∧
  (∀ M z k f e, mm_sh ac lo k f (M.2 k) = some e → xm_up (hp M z) (lo + k) e = hp (mm_i M k f) z) ∧
  (∀ M z k g e, mm_sh ac lo k (M.1 k) g = some e → xm_up (hp M z) (lo + k) e = hp (mm_l M k g) z) ∧
  (∀ M z z', ((hp M z).1, z') = hp M z')
def mm_hp (ac : Nat → ClassId) (lo : Nat) (M : mm_M) (z : Nat) : xm_H := (fun a => if a < lo then none else mm_sh ac lo (a - lo) (M.1 (a - lo)) (M.2 (a - lo)), z)
theorem mm_hp_at (ac : Nat → ClassId) (lo : Nat) (M : mm_M) (z a : Nat) : (mm_hp ac lo M z).1 a = if a < lo then none else mm_sh ac lo (a - lo) (M.1 (a - lo)) (M.2 (a - lo)) := rfl
theorem mm_is (ac : Nat → ClassId) (lo : Nat) : mm_L ac lo (mm_hp ac lo) := by
  refine ⟨fun M z k => ?_, fun M z => rfl, fun M z k f e he => ?_, fun M z k g e he => ?_, fun M z z' => rfl⟩
  · rw [mm_hp_at, if_neg (by omega), Nat.add_sub_cancel_left]
  · refine Prod.ext (funext fun a => ?_) rfl
    show (if a = lo + k then some e else (mm_hp ac lo M z).1 a) = (mm_hp ac lo (mm_i M k f) z).1 a
    rw [mm_hp_at, mm_hp_at]
    by_cases h1 : a = lo + k
    · subst h1
      rw [if_pos rfl, if_neg (by omega), Nat.add_sub_cancel_left]
      simp only [mm_i, if_true]
      exact he.symm
    · rw [if_neg h1]
      by_cases h2 : a < lo
      · rw [if_pos h2, if_pos h2]
      · rw [if_neg h2, if_neg h2]
        simp only [mm_i]
        rw [if_neg (by omega)]
  · refine Prod.ext (funext fun a => ?_) rfl
    show (if a = lo + k then some e else (mm_hp ac lo M z).1 a) = (mm_hp ac lo (mm_l M k g) z).1 a
    rw [mm_hp_at, mm_hp_at]
    by_cases h1 : a = lo + k
    · subst h1
      rw [if_pos rfl, if_neg (by omega), Nat.add_sub_cancel_left]
      simp only [mm_l, if_true]
      exact he.symm
    · rw [if_neg h1]
      by_cases h2 : a < lo
      · rw [if_pos h2, if_pos h2]
      · rw [if_neg h2, if_neg h2]
        simp only [mm_l]
        rw [if_neg (by omega)]
/-- what the constructors leave -/
def mm_0 : mm_M := (fun k => match k with
  | 0 => fun y => ([0, 0, 0, 0, 0, 0, 0, 0, 0, 0, 0, 0, 0, 0, 0, 0, 0, (-100), (-1)] : List Int32).getD y 0
  | 17 => fun y => ([0, 0, 0, 0, 0, (-1), 0, 0, 0, 0, (-1), 0] : List Int32).getD y 0
  | 18 => fun y => ([0, 0, 1, 0] : List Int32).getD y 0
  | 25 => fun y => ([0, 0, 0, 1, 0] : List Int32).getD y 0
  | 26 => (upd (fun _ => 0) 0 0)
  | 27 => (upd (fun _ => 0) 0 1)
  | 28 => (upd (fun _ => 0) 0 0)
  | 33 => fun y => ([0, 0, 1, 0] : List Int32).getD y 0
  | 36 => fun y => ([0, 0, 1, 0] : List Int32).getD y 0
  | 39 => fun y => ([0, 0, 0, 0, 0, 0, 0, 0, 0, (-1), 0] : List Int32).getD y 0
  | 57 => fun y => ([0, 0, 0, 0, 0, 0, 0, 0, 0, (-1), 0, 0, 0, 0, (-1), 0] : List Int32).getD y 0
  | 84 => fun y => ([0, 1, 2] : List Int32).getD y 0
  | 88 => fun y => ([0, 1, 2] : List Int32).getD y 0
  | 92 => fun y => ([0, 1, 2] : List Int32).getD y 0
  | 105 => fun y => ([0, 0, 1, 0] : List Int32).getD y 0
  | 108 => fun y => ([0, 0, 0, 0, 0, 0, 0, 0, 0, 0, 0, 0, 0, 0, 0, 0, 0, 0, 0, 0, 0, 0, 0, 0, 0, 0, 0, 0, 0, 0, 0, 0, 0, 0, 0, 0, 0, 0, 0, 0, 0, 0, 0, 0, 0, 0, 0, 0, 0, 0, 0, 0, 0, 0, 0, 0, 0, 0, 0, 0, 0, 0, 0, 0, 0, 0, 0, 0, 0, 0, 0, 0, 0, 0, 0, 0, 0, 0, 0, 0, 0, 1, 0, 0, 0, (-100), 0, 0, (-1), 0, 0, 0, 0, 0, 0, 0, 0, 0, 0, 0, 0, 0, 0, 0, 0, 0, 0, 0, 0, 0, 0, 0, 0, 0, 0, 0, 0, 0, 0, 0, 0, 0, 0, 0, 0, 0, 0, 0, 0, 0, (-1), 0, 0, 0, 0, 0, 0, 0, 0, 0, 0, 0, 0, 0, 0, 0, 0, (-1)] : List Int32).getD y 0
  | 157 => (upd (fun _ => 0) 0 0)
  | 158 => (upd (fun _ => 0) 0 1)
  | 159 => (upd (fun _ => 0) 0 0)
  | _ => fun _ => 0, fun _ _ => 0)
def mm_cs (ac : Nat → ClassId) (lo : Nat) : List va_E := [.inr (11, [.ref (lo + 1), .ref (lo + 2), .ref (lo + 9), .ref (lo + 17), .ref (lo + 25), .ref (lo + 29), .ref (lo + 33), .ref (lo + 36), .ref (lo + 39), .ref (lo + 46), .ref (lo + 57), .ref (lo + 70), .ref (lo + 83), .ref (lo + 104), .int 0, .int 0, .int 0, .int (-100), .int (-1)]), .inl (ac 4, 400, .inl (fun _ => 0)), .inr (5, [.ref (lo + 3), .ref (lo + 4), .ref (lo + 5), .ref (lo + 6), .ref (lo + 7), .ref (lo + 8), .null, .int 0, .int 0, .int 0, .int 0, .int 0, .int 0, .int 0, .int 0, .int 0, .int 0, .int 0, .int 0, .int 0]), .inl (ac 0, 300, .inl (fun _ => 0)), .inl (ac 0, 1200, .inl (fun _ => 0)), .inl (ac 0, 4, .inl (fun _ => 0)), .inl (ac 0, 4, .inl (fun _ => 0)), .inl (ac 0, 8, .inl (fun _ => 0)), .inl (ac 0, 4, .inl (fun _ => 0)), .inr (0, [.ref (lo + 10), .ref (lo + 11), .ref (lo + 12), .ref (lo + 13), .ref (lo + 14), .ref (lo + 15), .ref (lo + 16), .int 0, .int 0, .int 0]), .inl (ac 0, 6000, .inl (fun _ => 0)), .inl (ac 0, 20, .inl (fun _ => 0)), .inl (ac 0, 20, .inl (fun _ => 0)), .inl (ac 0, 300, .inl (fun _ => 0)), .inl (ac 4, 64, .inl (fun _ => 0)), .inl (ac 0, 8, .inl (fun _ => 0)), .inl (ac 0, 256, .inl (fun _ => 0)), .inr (4, [.ref (lo + 18), .ref (lo + 21), .ref (lo + 22), .ref (lo + 23), .ref (lo + 24), .int (-1), .int 0, .int 0, .int 0, .int 0, .int (-1), .long 0]), .inr (6, [.ref (lo + 20), .ref (lo + 19), .int 1, .int 0]), .inl (ac 1, 4, .inr (.inl (fun _ => 0))), .inl (ac 1, 1024, .inr (.inl (fun _ => 0))), .inl (ac 0, 16, .inl (fun _ => 0)), .inl (ac 0, 16, .inl (fun _ => 0)), .inl (ac 0, 256, .inl (fun _ => 0)), .inl (ac 0, 256, .inl (fun _ => 0)), .inr (8, [.ref (lo + 26), .ref (lo + 27), .ref (lo + 28), .int 1, .int 0]), .inl (ac 0, 20, .inl (upd (fun _ => 0) 0 0)), .inl (ac 0, 20, .inl (upd (fun _ => 0) 0 1)), .inl (ac 0, 20, .inl (upd (fun _ => 0) 0 0)), .inr (8, [.ref (lo + 30), .ref (lo + 31), .ref (lo + 32), .int 0, .int 0]), .inl (ac 0, 1, .inl (fun _ => 0)), .inl (ac 0, 1, .inl (fun _ => 0)), .inl (ac 0, 1, .inl (fun _ => 0)), .inr (6, [.ref (lo + 35), .ref (lo + 34), .int 1, .int 0]), .inl (ac 1, 4, .inr (.inl (fun _ => 0))), .inl (ac 1, 128, .inr (.inl (fun _ => 0))), .inr (6, [.ref (lo + 38), .ref (lo + 37), .int 1, .int 0]), .inl (ac 1, 4, .inr (.inl (fun _ => 0))), .inl (ac 1, 128, .inr (.inl (fun _ => 0))), .inr (10, [.ref (lo + 40), .ref (lo + 41), .ref (lo + 42), .ref (lo + 43), .ref (lo + 44), .ref (lo + 45), .int 0, .int 0, .int 0, .int (-1), .long 0]), .inl (ac 1, 60, .inr (.inl (fun _ => 0))), .inl (ac 1, 60, .inr (.inl (fun _ => 0))), .inl (ac 0, 60, .inl (fun _ => 0)), .inl (ac 0, 4, .inl (fun _ => 0)), .inl (ac 0, 60, .inl (fun _ => 0)), .inl (ac 1, 4, .inr (.inl (fun _ => 0))), .inr (3, [.ref (lo + 47), .ref (lo + 48), .ref (lo + 49), .ref (lo + 50), .ref (lo + 51), .ref (lo + 52), .ref (lo + 53), .ref (lo + 54), .ref (lo + 55), .ref (lo + 56), .int 0, .int 0, .int 0, .int 0, .int 0, .int 0, .int 0, .int 0]), .inl (ac 0, 8, .inl (fun _ => 0)), .inl (ac 0, 8, .inl (fun _ => 0)), .inl (ac 0, 8, .inl (fun _ => 0)), .inl (ac 0, 8, .inl (fun _ => 0)), .inl (ac 0, 512, .inl (fun _ => 0)), .inl (ac 0, 512, .inl (fun _ => 0)), .inl (ac 0, 256, .inl (fun _ => 0)), .inl (ac 0, 9, .inl (fun _ => 0)), .inl (ac 0, 9, .inl (fun _ => 0)), .inl (ac 0, 9, .inl (fun _ => 0)), .inr (2, [.ref (lo + 58), .ref (lo + 62), .ref (lo + 63), .ref (lo + 64), .ref (lo + 65), .ref (lo + 66), .ref (lo + 67), .ref (lo + 68), .ref (lo + 69), .int (-1), .int 0, .int 0, .int 0, .int 0, .int (-1), .int 0]), .inr (8, [.ref (lo + 59), .ref (lo + 60), .ref (lo + 61), .int 0, .int 0]), .inl (ac 0, 4, .inl (fun _ => 0)), .inl (ac 0, 4, .inl (fun _ => 0)), .inl (ac 0, 4, .inl (fun _ => 0)), .inl (ac 0, 224, .inl (fun _ => 0)), .inl (ac 0, 720, .inl (fun _ => 0)), .inl (ac 1, 720, .inr (.inl (fun _ => 0))), .inl (ac 0, 64, .inl (fun _ => 0)), .inl (ac 0, 301, .inl (fun _ => 0)), .inl (ac 4, 932, .inl (fun _ => 0)), .inl (ac 0, 24, .inl (fun _ => 0)), .inl (ac 0, 24, .inl (fun _ => 0)), .inr (7, [.ref (lo + 71), .ref (lo + 72), .ref (lo + 73), .ref (lo + 74), .ref (lo + 75), .ref (lo + 76), .ref (lo + 77), .ref (lo + 78), .ref (lo + 79), .ref (lo + 80), .ref (lo + 81), .ref (lo + 82), .int 0, .int 0]), .inl (ac 0, 9, .inl (fun _ => 0)), .inl (ac 0, 6, .inl (fun _ => 0)), .inl (ac 0, 301, .inl (fun _ => 0)), .inl (ac 0, 720, .inl (fun _ => 0)), .inl (ac 1, 2160, .inr (.inl (fun _ => 0))), .inl (ac 0, 720, .inl (fun _ => 0)), .inl (ac 1, 6900, .inr (.inl (fun _ => 0))), .inl (ac 0, 2048, .inl (fun _ => 0)), .inl (ac 1, 512, .inr (.inl (fun _ => 0))), .inl (ac 1, 512, .inr (.inl (fun _ => 0))), .inl (ac 0, 512, .inl (fun _ => 0)), .inl (ac 0, 512, .inl (fun _ => 0)), .inr (9, [.ref (lo + 84), .ref (lo + 88), .ref (lo + 92), .ref (lo + 96), .ref (lo + 97), .ref (lo + 98), .ref (lo + 99), .ref (lo + 100), .ref (lo + 101), .ref (lo + 102), .ref (lo + 103), .int 0]), .inl (ac 5, 3, .inr (.inr (.inr (.inr (va_up (va_up (va_up (fun _ => none) 0 (some (lo + 85))) 1 (some (lo + 86))) 2 (some (lo + 87))))))), .inl (ac 0, 150, .inl (fun _ => 0)), .inl (ac 0, 150, .inl (fun _ => 0)), .inl (ac 0, 150, .inl (fun _ => 0)), .inl (ac 5, 3, .inr (.inr (.inr (.inr (va_up (va_up (va_up (fun _ => none) 0 (some (lo + 89))) 1 (some (lo + 90))) 2 (some (lo + 91))))))), .inl (ac 0, 150, .inl (fun _ => 0)), .inl (ac 0, 150, .inl (fun _ => 0)), .inl (ac 0, 150, .inl (fun _ => 0)), .inl (ac 5, 3, .inr (.inr (.inr (.inr (va_up (va_up (va_up (fun _ => none) 0 (some (lo + 93))) 1 (some (lo + 94))) 2 (some (lo + 95))))))), .inl (ac 0, 150, .inl (fun _ => 0)), .inl (ac 0, 150, .inl (fun _ => 0)), .inl (ac 0, 150, .inl (fun _ => 0)), .inl (ac 0, 3, .inl (fun _ => 0)), .inl (ac 0, 3, .inl (fun _ => 0)), .inl (ac 0, 150, .inl (fun _ => 0)), .inl (ac 1, 150, .inr (.inl (fun _ => 0))), .inl (ac 1, 150, .inr (.inl (fun _ => 0))), .inl (ac 1, 256, .inr (.inl (fun _ => 0))), .inl (ac 1, 256, .inr (.inl (fun _ => 0))), .inl (ac 0, 257, .inl (fun _ => 0)), .inr (1, [.ref (lo + 105), .int 0, .int 0, .int 0]), .inr (6, [.ref (lo + 107), .ref (lo + 106), .int 1, .int 0]), .inl (ac 1, 4, .inr (.inl (fun _ => 0))), .inl (ac 1, 256, .inr (.inl (fun _ => 0))), .inr (12, [.int 0, .ref (lo + 109), .int 0, .int 0, .int 0, .int 0, .int 0, .ref (lo + 110), .ref (lo + 111), .ref (lo + 112), .ref (lo + 113), .ref (lo + 114), .ref (lo + 115), .ref (lo + 116), .ref (lo + 117), .ref (lo + 118), .ref (lo + 119), .int 0, .int 0, .int 0, .ref (lo + 120), .ref (lo + 121), .ref (lo + 122), .ref (lo + 123), .ref (lo + 124), .ref (lo + 125), .ref (lo + 126), .int 0, .ref (lo + 127), .ref (lo + 128), .ref (lo + 129), .ref (lo + 130), .int 0, .int 0, .int 0, .int 0, .int 0, .int 0, .int 0, .ref (lo + 131), .int 0, .ref (lo + 132), .ref (lo + 133), .ref (lo + 134), .ref (lo + 135), .int 0, .int 0, .int 0, .int 0, .int 0, .ref (lo + 136), .ref (lo + 137), .ref (lo + 138), .ref (lo + 139), .ref (lo + 140), .ref (lo + 141), .ref (lo + 142), .ref (lo + 143), .ref (lo + 144), .ref (lo + 145), .ref (lo + 146), .ref (lo + 147), .ref (lo + 148), .ref (lo + 149), .int 0, .int 0, .int 0, .int 0, .int 0, .long 0, .int 0, .int 0, .ref (lo + 150), .ref (lo + 151), .int 0, .ref (lo + 152), .ref (lo + 153), .int 0, .ref (lo + 154), .ref (lo + 155), .ref (lo + 156), .int 1, .ref (lo + 157), .ref (lo + 158), .ref (lo + 159), .int (-100), .ref (lo + 160), .ref (lo + 161), .int (-1), .int 0, .int 0, .ref (lo + 162), .ref (lo + 163), .ref (lo + 164), .ref (lo + 165), .ref (lo + 166), .ref (lo + 167), .ref (lo + 168), .int 0, .int 0, .int 0, .ref (lo + 169), .ref (lo + 170), .ref (lo + 171), .ref (lo + 172), .ref (lo + 173), .int 0, .ref (lo + 174), .ref (lo + 175), .int 0, .int 0, .int 0, .ref (lo + 176), .ref (lo + 177), .int 0, .int 0, .ref (lo + 178), .ref (lo + 179), .ref (lo + 180), .ref (lo + 181), .ref (lo + 182), .ref (lo + 183), .ref (lo + 184), .ref (lo + 185), .int 0, .ref (lo + 186), .ref (lo + 187), .ref (lo + 188), .ref (lo + 189), .int 0, .int (-1), .int 0, .ref (lo + 190), .ref (lo + 191), .ref (lo + 192), .int 0, .ref (lo + 193), .ref (lo + 194), .ref (lo + 195), .int 0, .ref (lo + 196), .ref (lo + 197), .ref (lo + 198), .ref (lo + 199), .ref (lo + 200), .ref (lo + 201), .int 0, .int (-1)]), .inl (ac 0, 400, .inl (fun _ => 0)), .inl (ac 0, 21, .inl (fun _ => 0)), .inl (ac 0, 21, .inl (fun _ => 0)), .inl (ac 0, 6300, .inl (fun _ => 0)), .inl (ac 0, 6300, .inl (fun _ => 0)), .inl (ac 0, 6300, .inl (fun _ => 0)), .inl (ac 0, 6300, .inl (fun _ => 0)), .inl (ac 0, 6300, .inl (fun _ => 0)), .inl (ac 0, 6300, .inl (fun _ => 0)), .inl (ac 1, 5, .inr (.inl (fun _ => 0))), .inl (ac 1, 5, .inr (.inl (fun _ => 0))), .inl (ac 0, 401, .inl (fun _ => 0)), .inl (ac 0, 401, .inl (fun _ => 0)), .inl (ac 0, 401, .inl (fun _ => 0)), .inl (ac 0, 401, .inl (fun _ => 0)), .inl (ac 2, 401, .inl (fun _ => 0)), .inl (ac 0, 401, .inl (fun _ => 0)), .inl (ac 0, 401, .inl (fun _ => 0)), .inl (ac 0, 401, .inl (fun _ => 0)), .inl (ac 0, 4, .inl (fun _ => 0)), .inl (ac 0, 4, .inl (fun _ => 0)), .inl (ac 0, 4, .inl (fun _ => 0)), .inl (ac 0, 1640, .inl (fun _ => 0)), .inl (ac 0, 18000, .inl (fun _ => 0)), .inl (ac 0, 8, .inl (fun _ => 0)), .inl (ac 2, 8, .inl (fun _ => 0)), .inl (ac 2, 256, .inl (fun _ => 0)), .inl (ac 0, 11520, .inl (fun _ => 0)), .inl (ac 0, 11520, .inl (fun _ => 0)), .inl (ac 3, 11520, .inl (fun _ => 0)), .inl (ac 0, 32768, .inl (fun _ => 0)), .inl (ac 0, 64, .inl (fun _ => 0)), .inl (ac 0, 2, .inl (fun _ => 0)), .inl (ac 0, 2, .inl (fun _ => 0)), .inl (ac 0, 300, .inl (fun _ => 0)), .inl (ac 0, 300, .inl (fun _ => 0)), .inl (ac 0, 300, .inl (fun _ => 0)), .inl (ac 1, 65536, .inr (.inl (fun _ => 0))), .inl (ac 1, 65536, .inr (.inl (fun _ => 0))), .inl (ac 2, 65536, .inl (fun _ => 0)), .inl (ac 0, 22501, .inl (fun _ => 0)), .inl (ac 1, 1280, .inr (.inl (fun _ => 0))), .inl (ac 1, 1280, .inr (.inl (fun _ => 0))), .inl (ac 1, 10, .inr (.inl (fun _ => 0))), .inl (ac 1, 5, .inr (.inl (fun _ => 0))), .inl (ac 0, 16, .inl (fun _ => 0)), .inl (ac 0, 16, .inl (fun _ => 0)), .inl (ac 0, 16, .inl (fun _ => 0)), .inl (ac 0, 20, .inl (upd (fun _ => 0) 0 0)), .inl (ac 0, 20, .inl (upd (fun _ => 0) 0 1)), .inl (ac 0, 20, .inl (upd (fun _ => 0) 0 0)), .inl (ac 1, 320, .inr (.inl (fun _ => 0))), .inl (ac 1, 1280, .inr (.inl (fun _ => 0))), .inl (ac 1, 320, .inr (.inl (fun _ => 0))), .inl (ac 1, 320, .inr (.inl (fun _ => 0))), .inl (ac 2, 32768, .inl (fun _ => 0)), .inl (ac 0, 32768, .inl (fun _ => 0)), .inl (ac 0, 9, .inl (fun _ => 0)), .inl (ac 0, 512, .inl (fun _ => 0)), .inl (ac 0, 512, .inl (fun _ => 0)), .inl (ac 2, 60, .inl (fun _ => 0)), .inl (ac 0, 60, .inl (fun _ => 0)), .inl (ac 0, 3600, .inl (fun _ => 0)), .inl (ac 0, 4, .inl (fun _ => 0)), .inl (ac 2, 4, .inl (fun _ => 0)), .inl (ac 0, 60, .inl (fun _ => 0)), .inl (ac 0, 60, .inl (fun _ => 0)), .inl (ac 0, 8, .inl (fun _ => 0)), .inl (ac 0, 8, .inl (fun _ => 0)), .inl (ac 0, 9, .inl (fun _ => 0)), .inl (ac 0, 9, .inl (fun _ => 0)), .inl (ac 0, 9, .inl (fun _ => 0)), .inl (ac 3, 65536, .inl (fun _ => 0)), .inl (ac 0, 9, .inl (fun _ => 0)), .inl (ac 0, 9, .inl (fun _ => 0)), .inl (ac 0, 9, .inl (fun _ => 0)), .inl (ac 0, 256, .inl (fun _ => 0)), .inl (ac 1, 20, .inr (.inl (fun _ => 0))), .inl (ac 1, 20, .inr (.inl (fun _ => 0))), .inl (ac 1, 20, .inr (.inl (fun _ => 0))), .inl (ac 0, 1300, .inl (fun _ => 0)), .inl (ac 1, 480, .inr (.inl (fun _ => 0))), .inl (ac 0, 480, .inl (fun _ => 0)), .inl (ac 0, 24, .inl (fun _ => 0)), .inl (ac 3, 40320, .inl (fun _ => 0)), .inl (ac 0, 40320, .inl (fun _ => 0)), .inl (ac 2, 36, .inl (fun _ => 0)), .inl (ac 0, 6, .inl (fun _ => 0)), .inl (ac 0, 46656, .inl (fun _ => 0)), .inl (ac 0, 217000, .inl (fun _ => 0)), .inl (ac 0, 217000, .inl (fun _ => 0)), .inl (ac 0, 217000, .inl (fun _ => 0)), .inl (ac 0, 217000, .inl (fun _ => 0)), .inl (ac 1, 1, .inr (.inl (fun _ => 0)))]
set_option maxRecDepth 100000 in
theorem mm_none (ac : Nat → ClassId) (lo : Nat) (k : Nat) (f : Nat → Int32) (g : Nat → Int64) (h : 203 ≤ k) : mm_sh ac lo k f g = none := by
  unfold mm_sh
  by_cases h9 : k < 208
  · rcases (by omega : k = 203 ∨ k = 204 ∨ k = 205 ∨ k = 206 ∨ k = 207) with rfl | rfl | rfl | rfl | rfl <;> rfl
  · have hb : Nat.blt k 208 = false := by
      cases hh : Nat.blt k 208 with
      | false => rfl
      | true => exact absurd (Nat.le_of_ble_eq_true hh) (by omega)
    rw [hb]
    rfl
set_option maxRecDepth 100000 in
theorem mm_cs_at (ac : Nat → ClassId) (lo : Nat) : ∀ k : Nat, (mm_cs ac lo)[k]? = mm_sh ac lo k (mm_0.1 k) (mm_0.2 k)
  | 0 => rfl
  | 1 => rfl
  | 2 => rfl
  | 3 => rfl
  | 4 => rfl
  | 5 => rfl
  | 6 => rfl
  | 7 => rfl
  | 8 => rfl
  | 9 => rfl
  | 10 => rfl
  | 11 => rfl
  | 12 => rfl
  | 13 => rfl
  | 14 => rfl
  | 15 => rfl
  | 16 => rfl
  | 17 => rfl
  | 18 => rfl
  | 19 => rfl
  | 20 => rfl
  | 21 => rfl
  | 22 => rfl
  | 23 => rfl
  | 24 => rfl
  | 25 => rfl
  | 26 => rfl
  | 27 => rfl
  | 28 => rfl
  | 29 => rfl
  | 30 => rfl
  | 31 => rfl
  | 32 => rfl
  | 33 => rfl
  | 34 => rfl
  | 35 => rfl
  | 36 => rfl
  | 37 => rfl
  | 38 => rfl
  | 39 => rfl
  | 40 => rfl
  | 41 => rfl
  | 42 => rfl
  | 43 => rfl
  | 44 => rfl
  | 45 => rfl
  | 46 => rfl
  | 47 => rfl
  | 48 => rfl
  | 49 => rfl
  | 50 => rfl
  | 51 => rfl
  | 52 => rfl
  | 53 => rfl
  | 54 => rfl
  | 55 => rfl
  | 56 => rfl
  | 57 => rfl
  | 58 => rfl
  | 59 => rfl
  | 60 => rfl
  | 61 => rfl
  | 62 => rfl
  | 63 => rfl
  | 64 => rfl
  | 65 => rfl
  | 66 => rfl
  | 67 => rfl
  | 68 => rfl
  | 69 => rfl
  | 70 => rfl
  | 71 => rfl
  | 72 => rfl
  | 73 => rfl
  | 74 => rfl
  | 75 => rfl
  | 76 => rfl
  | 77 => rfl
  | 78 => rfl
  | 79 => rfl
  | 80 => rfl
  | 81 => rfl
  | 82 => rfl
  | 83 => rfl
  | 84 => rfl
  | 85 => rfl
  | 86 => rfl
  | 87 => rfl
  | 88 => rfl
  | 89 => rfl
  | 90 => rfl
  | 91 => rfl
  | 92 => rfl
  | 93 => rfl
  | 94 => rfl
  | 95 => rfl
  | 96 => rfl
  | 97 => rfl
  | 98 => rfl
  | 99 => rfl
  | 100 => rfl
  | 101 => rfl
  | 102 => rfl
  | 103 => rfl
  | 104 => rfl
  | 105 => rfl
  | 106 => rfl
  | 107 => rfl
  | 108 => rfl
  | 109 => rfl
  | 110 => rfl
  | 111 => rfl
  | 112 => rfl
  | 113 => rfl
  | 114 => rfl
  | 115 => rfl
  | 116 => rfl
  | 117 => rfl
  | 118 => rfl
  | 119 => rfl
  | 120 => rfl
  | 121 => rfl
  | 122 => rfl
  | 123 => rfl
  | 124 => rfl
  | 125 => rfl
  | 126 => rfl
  | 127 => rfl
  | 128 => rfl
  | 129 => rfl
  | 130 => rfl
  | 131 => rfl
  | 132 => rfl
  | 133 => rfl
  | 134 => rfl
  | 135 => rfl
  | 136 => rfl
  | 137 => rfl
  | 138 => rfl
  | 139 => rfl
  | 140 => rfl
  | 141 => rfl
  | 142 => rfl
  | 143 => rfl
  | 144 => rfl
  | 145 => rfl
  | 146 => rfl
  | 147 => rfl
  | 148 => rfl
  | 149 => rfl
  | 150 => rfl
  | 151 => rfl
  | 152 => rfl
  | 153 => rfl
  | 154 => rfl
  | 155 => rfl
  | 156 => rfl
  | 157 => rfl
  | 158 => rfl
  | 159 => rfl
  | 160 => rfl
  | 161 => rfl
  | 162 => rfl
  | 163 => rfl
  | 164 => rfl
  | 165 => rfl
  | 166 => rfl
  | 167 => rfl
  | 168 => rfl
  | 169 => rfl
  | 170 => rfl
  | 171 => rfl
  | 172 => rfl
  | 173 => rfl
  | 174 => rfl
  | 175 => rfl
  | 176 => rfl
  | 177 => rfl
  | 178 => rfl
  | 179 => rfl
  | 180 => rfl
  | 181 => rfl
  | 182 => rfl
  | 183 => rfl
  | 184 => rfl
  | 185 => rfl
  | 186 => rfl
  | 187 => rfl
  | 188 => rfl
  | 189 => rfl
  | 190 => rfl
  | 191 => rfl
  | 192 => rfl
  | 193 => rfl
  | 194 => rfl
  | 195 => rfl
  | 196 => rfl
  | 197 => rfl
  | 198 => rfl
  | 199 => rfl
  | 200 => rfl
  | 201 => rfl
  | 202 => rfl
  | k + 203 => by rw [mm_none ac lo (k + 203) _ _ (by omega)]; rfl
theorem mm_fresh (ac : Nat → ClassId) (lo : Nat) : xh (fun _ => none) lo (mm_cs ac lo) = mm_hp ac lo mm_0 (lo + 203) := by
  refine Prod.ext (funext fun a => ?_) rfl
  rw [xh_at, mm_hp_at]
  by_cases h : a < lo
  · rw [if_pos h, if_pos h]
  · rw [if_neg h, if_neg h]
    exact mm_cs_at ac lo (a - lo)
