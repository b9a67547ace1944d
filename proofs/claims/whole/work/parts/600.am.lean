/-! THE MEMORY'S MACHINE: one step over the fixed memory, as data. Values: ints, longs, numbers of cells (static arrays from 1000 on), null -/
abbrev am_V : Type := Int32 ⊕ (Int64 ⊕ Option Nat)
abbrev am_L : Type := List (Option am_V)
abbrev am_S : Type := Nat × am_L × List am_V × mm_M
abbrev am_R : Type := Option am_V ⊕ String
/-- what a step comes to: a state; a state, if something holds; one of two, by a test; one of several; a call; an end; nothing -/
abbrev am_O : Type := am_S ⊕ ((Prop × am_S) ⊕ ((Prop × am_S × am_S) ⊕ ((Int32 × List (Int32 × Nat) × am_S) ⊕ ((Nat × List am_V × am_S) ⊕ ((Prop × am_R × mm_M) ⊕ Unit)))))
abbrev am_X : Type := Nat → am_L → List am_V → mm_M → Prop
abbrev am_Q : Type := am_R → mm_M → Prop
abbrev am_C : Type := Nat → List am_V → mm_M → am_Q → Prop
abbrev am_nx (s : am_S) : am_O := .inl s
abbrev am_ob (c : Prop) (s : am_S) : am_O := .inr (.inl (c, s))
abbrev am_br (c : Prop) (s t : am_S) : am_O := .inr (.inr (.inl (c, s, t)))
abbrev am_sw (a : Int32) (ts : List (Int32 × Nat)) (s : am_S) : am_O := .inr (.inr (.inr (.inl (a, ts, s))))
abbrev am_cl (x : Nat) (as : List am_V) (s : am_S) : am_O := .inr (.inr (.inr (.inr (.inl (x, as, s)))))
abbrev am_rt (c : Prop) (r : am_R) (M : mm_M) : am_O := .inr (.inr (.inr (.inr (.inr (.inl (c, r, M))))))
abbrev am_no : am_O := .inr (.inr (.inr (.inr (.inr (.inr ())))))
/-- the layout: of an array its sort (1 int, 2 long, 3 boolean, 4 byte, 5 char, 6 rows) and length; of an object 10 and its class, its fields (0 int, 1 long, 2 null or the tape, 3 and a cell) -/
def am_y0 (k : Nat) : Nat × Nat × List Nat := (bif Nat.blt k 8 then (bif Nat.blt k 4 then (bif Nat.blt k 2 then (bif Nat.blt k 1 then (21, 0, [4, 5, 12, 20, 28, 32, 36, 39, 42, 49, 60, 73, 86, 107, 0, 0, 0, 0, 0]) else (5, 400, [])) else (bif Nat.blt k 3 then (15, 0, [6, 7, 8, 9, 10, 11, 2, 0, 0, 0, 0, 0, 0, 0, 0, 0, 0, 0, 0, 0]) else (1, 300, []))) else (bif Nat.blt k 6 then (bif Nat.blt k 5 then (1, 1200, []) else (1, 4, [])) else (bif Nat.blt k 7 then (1, 4, []) else (1, 8, [])))) else (bif Nat.blt k 12 then (bif Nat.blt k 10 then (bif Nat.blt k 9 then (1, 4, []) else (10, 0, [13, 14, 15, 16, 17, 18, 19, 0, 0, 0])) else (bif Nat.blt k 11 then (1, 6000, []) else (1, 20, []))) else (bif Nat.blt k 14 then (bif Nat.blt k 13 then (1, 20, []) else (1, 300, [])) else (bif Nat.blt k 15 then (5, 64, []) else (1, 8, [])))))
def am_y1 (k : Nat) : Nat × Nat × List Nat := (bif Nat.blt k 24 then (bif Nat.blt k 20 then (bif Nat.blt k 18 then (bif Nat.blt k 17 then (1, 256, []) else (14, 0, [21, 24, 25, 26, 27, 0, 0, 0, 0, 0, 0, 1])) else (bif Nat.blt k 19 then (16, 0, [23, 22, 0, 0]) else (2, 4, []))) else (bif Nat.blt k 22 then (bif Nat.blt k 21 then (2, 1024, []) else (1, 16, [])) else (bif Nat.blt k 23 then (1, 16, []) else (1, 256, [])))) else (bif Nat.blt k 28 then (bif Nat.blt k 26 then (bif Nat.blt k 25 then (1, 256, []) else (18, 0, [29, 30, 31, 0, 0])) else (bif Nat.blt k 27 then (1, 20, []) else (1, 20, []))) else (bif Nat.blt k 30 then (bif Nat.blt k 29 then (1, 20, []) else (18, 0, [33, 34, 35, 0, 0])) else (bif Nat.blt k 31 then (1, 1, []) else (1, 1, [])))))
def am_y2 (k : Nat) : Nat × Nat × List Nat := (bif Nat.blt k 40 then (bif Nat.blt k 36 then (bif Nat.blt k 34 then (bif Nat.blt k 33 then (1, 1, []) else (16, 0, [38, 37, 0, 0])) else (bif Nat.blt k 35 then (2, 4, []) else (2, 128, []))) else (bif Nat.blt k 38 then (bif Nat.blt k 37 then (16, 0, [41, 40, 0, 0]) else (2, 4, [])) else (bif Nat.blt k 39 then (2, 128, []) else (20, 0, [43, 44, 45, 46, 47, 48, 0, 0, 0, 0, 1])))) else (bif Nat.blt k 44 then (bif Nat.blt k 42 then (bif Nat.blt k 41 then (2, 60, []) else (2, 60, [])) else (bif Nat.blt k 43 then (1, 60, []) else (1, 4, []))) else (bif Nat.blt k 46 then (bif Nat.blt k 45 then (1, 60, []) else (2, 4, [])) else (bif Nat.blt k 47 then (13, 0, [50, 51, 52, 53, 54, 55, 56, 57, 58, 59, 0, 0, 0, 0, 0, 0, 0, 0]) else (1, 8, [])))))
def am_y3 (k : Nat) : Nat × Nat × List Nat := (bif Nat.blt k 56 then (bif Nat.blt k 52 then (bif Nat.blt k 50 then (bif Nat.blt k 49 then (1, 8, []) else (1, 8, [])) else (bif Nat.blt k 51 then (1, 8, []) else (1, 512, []))) else (bif Nat.blt k 54 then (bif Nat.blt k 53 then (1, 512, []) else (1, 256, [])) else (bif Nat.blt k 55 then (1, 9, []) else (1, 9, [])))) else (bif Nat.blt k 60 then (bif Nat.blt k 58 then (bif Nat.blt k 57 then (1, 9, []) else (12, 0, [61, 65, 66, 67, 68, 69, 70, 71, 72, 0, 0, 0, 0, 0, 0, 0])) else (bif Nat.blt k 59 then (18, 0, [62, 63, 64, 0, 0]) else (1, 4, []))) else (bif Nat.blt k 62 then (bif Nat.blt k 61 then (1, 4, []) else (1, 4, [])) else (bif Nat.blt k 63 then (1, 224, []) else (1, 720, [])))))
def am_y4 (k : Nat) : Nat × Nat × List Nat := (bif Nat.blt k 72 then (bif Nat.blt k 68 then (bif Nat.blt k 66 then (bif Nat.blt k 65 then (2, 720, []) else (1, 64, [])) else (bif Nat.blt k 67 then (1, 301, []) else (5, 932, []))) else (bif Nat.blt k 70 then (bif Nat.blt k 69 then (1, 24, []) else (1, 24, [])) else (bif Nat.blt k 71 then (17, 0, [74, 75, 76, 77, 78, 79, 80, 81, 82, 83, 84, 85, 0, 0]) else (1, 9, [])))) else (bif Nat.blt k 76 then (bif Nat.blt k 74 then (bif Nat.blt k 73 then (1, 6, []) else (1, 301, [])) else (bif Nat.blt k 75 then (1, 720, []) else (2, 2160, []))) else (bif Nat.blt k 78 then (bif Nat.blt k 77 then (1, 720, []) else (2, 6900, [])) else (bif Nat.blt k 79 then (1, 2048, []) else (2, 512, [])))))
def am_y5 (k : Nat) : Nat × Nat × List Nat := (bif Nat.blt k 88 then (bif Nat.blt k 84 then (bif Nat.blt k 82 then (bif Nat.blt k 81 then (2, 512, []) else (1, 512, [])) else (bif Nat.blt k 83 then (1, 512, []) else (19, 0, [87, 91, 95, 99, 100, 101, 102, 103, 104, 105, 106, 0]))) else (bif Nat.blt k 86 then (bif Nat.blt k 85 then (6, 3, []) else (1, 150, [])) else (bif Nat.blt k 87 then (1, 150, []) else (1, 150, [])))) else (bif Nat.blt k 92 then (bif Nat.blt k 90 then (bif Nat.blt k 89 then (6, 3, []) else (1, 150, [])) else (bif Nat.blt k 91 then (1, 150, []) else (1, 150, []))) else (bif Nat.blt k 94 then (bif Nat.blt k 93 then (6, 3, []) else (1, 150, [])) else (bif Nat.blt k 95 then (1, 150, []) else (1, 150, [])))))
def am_y6 (k : Nat) : Nat × Nat × List Nat := (bif Nat.blt k 104 then (bif Nat.blt k 100 then (bif Nat.blt k 98 then (bif Nat.blt k 97 then (1, 3, []) else (1, 3, [])) else (bif Nat.blt k 99 then (1, 150, []) else (2, 150, []))) else (bif Nat.blt k 102 then (bif Nat.blt k 101 then (2, 150, []) else (2, 256, [])) else (bif Nat.blt k 103 then (2, 256, []) else (1, 257, [])))) else (bif Nat.blt k 108 then (bif Nat.blt k 106 then (bif Nat.blt k 105 then (11, 0, [108, 0, 0, 0]) else (16, 0, [110, 109, 0, 0])) else (bif Nat.blt k 107 then (2, 4, []) else (2, 256, []))) else (bif Nat.blt k 110 then (bif Nat.blt k 109 then (22, 0, [0, 112, 0, 0, 0, 0, 0, 113, 114, 115, 116, 117, 118, 119, 120, 121, 122, 0, 0, 0, 123, 124, 125, 126, 127, 128, 129, 0, 130, 131, 132, 133, 0, 0, 0, 0, 0, 0, 0, 134, 0, 135, 136, 137, 138, 0, 0, 0, 0, 0, 139, 140, 141, 142, 143, 144, 145, 146, 147, 148, 149, 150, 151, 152, 0, 0, 0, 0, 0, 1, 0, 0, 153, 154, 0, 155, 156, 0, 157, 158, 159, 0, 160, 161, 162, 0, 163, 164, 0, 0, 0, 165, 166, 167, 168, 169, 170, 171, 0, 0, 0, 172, 173, 174, 175, 176, 0, 177, 178, 0, 0, 0, 179, 180, 0, 0, 181, 182, 183, 184, 185, 186, 187, 188, 0, 189, 190, 191, 192, 0, 0, 0, 193, 194, 195, 0, 196, 197, 198, 0, 199, 200, 201, 202, 203, 204, 0, 0]) else (1, 400, [])) else (bif Nat.blt k 111 then (1, 21, []) else (1, 21, [])))))
def am_y7 (k : Nat) : Nat × Nat × List Nat := (bif Nat.blt k 120 then (bif Nat.blt k 116 then (bif Nat.blt k 114 then (bif Nat.blt k 113 then (1, 6300, []) else (1, 6300, [])) else (bif Nat.blt k 115 then (1, 6300, []) else (1, 6300, []))) else (bif Nat.blt k 118 then (bif Nat.blt k 117 then (1, 6300, []) else (1, 6300, [])) else (bif Nat.blt k 119 then (2, 5, []) else (2, 5, [])))) else (bif Nat.blt k 124 then (bif Nat.blt k 122 then (bif Nat.blt k 121 then (1, 401, []) else (1, 401, [])) else (bif Nat.blt k 123 then (1, 401, []) else (1, 401, []))) else (bif Nat.blt k 126 then (bif Nat.blt k 125 then (3, 401, []) else (1, 401, [])) else (bif Nat.blt k 127 then (1, 401, []) else (1, 401, [])))))
def am_y8 (k : Nat) : Nat × Nat × List Nat := (bif Nat.blt k 136 then (bif Nat.blt k 132 then (bif Nat.blt k 130 then (bif Nat.blt k 129 then (1, 4, []) else (1, 4, [])) else (bif Nat.blt k 131 then (1, 4, []) else (1, 1640, []))) else (bif Nat.blt k 134 then (bif Nat.blt k 133 then (1, 18000, []) else (1, 8, [])) else (bif Nat.blt k 135 then (3, 8, []) else (3, 256, [])))) else (bif Nat.blt k 140 then (bif Nat.blt k 138 then (bif Nat.blt k 137 then (1, 11520, []) else (1, 11520, [])) else (bif Nat.blt k 139 then (4, 11520, []) else (1, 32768, []))) else (bif Nat.blt k 142 then (bif Nat.blt k 141 then (1, 64, []) else (1, 2, [])) else (bif Nat.blt k 143 then (1, 2, []) else (1, 300, [])))))
def am_y9 (k : Nat) : Nat × Nat × List Nat := (bif Nat.blt k 152 then (bif Nat.blt k 148 then (bif Nat.blt k 146 then (bif Nat.blt k 145 then (1, 300, []) else (1, 300, [])) else (bif Nat.blt k 147 then (2, 65536, []) else (2, 65536, []))) else (bif Nat.blt k 150 then (bif Nat.blt k 149 then (3, 65536, []) else (1, 22501, [])) else (bif Nat.blt k 151 then (2, 1280, []) else (2, 1280, [])))) else (bif Nat.blt k 156 then (bif Nat.blt k 154 then (bif Nat.blt k 153 then (2, 10, []) else (2, 5, [])) else (bif Nat.blt k 155 then (1, 16, []) else (1, 16, []))) else (bif Nat.blt k 158 then (bif Nat.blt k 157 then (1, 16, []) else (1, 20, [])) else (bif Nat.blt k 159 then (1, 20, []) else (1, 20, [])))))
def am_y10 (k : Nat) : Nat × Nat × List Nat := (bif Nat.blt k 168 then (bif Nat.blt k 164 then (bif Nat.blt k 162 then (bif Nat.blt k 161 then (2, 320, []) else (2, 1280, [])) else (bif Nat.blt k 163 then (2, 320, []) else (2, 320, []))) else (bif Nat.blt k 166 then (bif Nat.blt k 165 then (3, 32768, []) else (1, 32768, [])) else (bif Nat.blt k 167 then (1, 9, []) else (1, 512, [])))) else (bif Nat.blt k 172 then (bif Nat.blt k 170 then (bif Nat.blt k 169 then (1, 512, []) else (3, 60, [])) else (bif Nat.blt k 171 then (1, 60, []) else (1, 3600, []))) else (bif Nat.blt k 174 then (bif Nat.blt k 173 then (1, 4, []) else (3, 4, [])) else (bif Nat.blt k 175 then (1, 60, []) else (1, 60, [])))))
def am_y11 (k : Nat) : Nat × Nat × List Nat := (bif Nat.blt k 184 then (bif Nat.blt k 180 then (bif Nat.blt k 178 then (bif Nat.blt k 177 then (1, 8, []) else (1, 8, [])) else (bif Nat.blt k 179 then (1, 9, []) else (1, 9, []))) else (bif Nat.blt k 182 then (bif Nat.blt k 181 then (1, 9, []) else (4, 65536, [])) else (bif Nat.blt k 183 then (1, 9, []) else (1, 9, [])))) else (bif Nat.blt k 188 then (bif Nat.blt k 186 then (bif Nat.blt k 185 then (1, 9, []) else (1, 256, [])) else (bif Nat.blt k 187 then (2, 20, []) else (2, 20, []))) else (bif Nat.blt k 190 then (bif Nat.blt k 189 then (2, 20, []) else (1, 1300, [])) else (bif Nat.blt k 191 then (2, 480, []) else (1, 480, [])))))
def am_y12 (k : Nat) : Nat × Nat × List Nat := (bif Nat.blt k 200 then (bif Nat.blt k 196 then (bif Nat.blt k 194 then (bif Nat.blt k 193 then (1, 24, []) else (4, 40320, [])) else (bif Nat.blt k 195 then (1, 40320, []) else (3, 36, []))) else (bif Nat.blt k 198 then (bif Nat.blt k 197 then (1, 6, []) else (1, 46656, [])) else (bif Nat.blt k 199 then (1, 217000, []) else (1, 217000, [])))) else (bif Nat.blt k 204 then (bif Nat.blt k 202 then (bif Nat.blt k 201 then (1, 217000, []) else (1, 217000, [])) else (bif Nat.blt k 203 then (2, 1, []) else (0, 0, []))) else (bif Nat.blt k 206 then (bif Nat.blt k 205 then (0, 0, []) else (0, 0, [])) else (bif Nat.blt k 207 then (0, 0, []) else (0, 0, [])))))
def am_ly (k : Nat) : Nat × Nat × List Nat := bif Nat.blt k 208 then (bif Nat.blt k 96 then (bif Nat.blt k 48 then (bif Nat.blt k 16 then am_y0 k else (bif Nat.blt k 32 then am_y1 k else am_y2 k)) else (bif Nat.blt k 64 then am_y3 k else (bif Nat.blt k 80 then am_y4 k else am_y5 k))) else (bif Nat.blt k 144 then (bif Nat.blt k 112 then am_y6 k else (bif Nat.blt k 128 then am_y7 k else am_y8 k)) else (bif Nat.blt k 176 then (bif Nat.blt k 160 then am_y9 k else am_y10 k) else (bif Nat.blt k 192 then am_y11 k else am_y12 k)))) else (0, 0, [])
def am_fv (lo c : Nat) (a : Int32) (b : Int64) : Value := match c with
  | 0 => .int a
  | 1 => .long b
  | 2 => bif a == 0 then .null else .ref (lo + 1)
  | c + 3 => .ref (lo + c)
def am_fs (lo : Nat) (f : Nat → Int32) (g : Nat → Int64) : Nat → List Nat → List Value
  | _, [] => []
  | y, c :: r => am_fv lo c (f y) (g y) :: am_fs lo f g (y + 1) r
def am_sh (ac : Nat → ClassId) (lo k : Nat) (f : Nat → Int32) (g : Nat → Int64) : Option va_E := match am_ly k with
  | (0, _, _) => none
  | (1, n, _) => some (.inl (ac 0, n, .inl f))
  | (2, n, _) => some (.inl (ac 1, n, .inr (.inl g)))
  | (3, n, _) => some (.inl (ac 2, n, .inl f))
  | (4, n, _) => some (.inl (ac 3, n, .inl f))
  | (5, n, _) => some (.inl (ac 4, n, .inl f))
  | (6, n, _) => some (.inl (ac 5, n, .inr (.inr (.inr (.inr (va_up (va_up (va_up (fun _ => none) 0 (some (lo + (k + 1 + (f 0).toNatClampNeg)))) 1 (some (lo + (k + 1 + (f 1).toNatClampNeg)))) 2 (some (lo + (k + 1 + (f 2).toNatClampNeg)))))))))
  | (7, _, _) => none
  | (8, _, _) => none
  | (9, _, _) => none
  | (c + 10, _, ks) => some (.inr (c, am_fs lo f g 0 ks))
set_option maxRecDepth 100000 in
theorem am_shk (ac : Nat → ClassId) (lo : Nat) (f : Nat → Int32) (g : Nat → Int64) : ∀ k : Nat, am_sh ac lo k f g = mm_sh ac lo k f g
  | 0 => rfl
  | 1 => rfl
  | 2 => rfl
  | 3 => rfl
  | 4 => rfl
  | 5 => rfl
  | 6 => rfl
  | 7 => rfl
  | 8 => rfl
  | 9 => rfl
  | 10 => rfl
  | 11 => rfl
  | 12 => rfl
  | 13 => rfl
  | 14 => rfl
  | 15 => rfl
  | 16 => rfl
  | 17 => rfl
  | 18 => rfl
  | 19 => rfl
  | 20 => rfl
  | 21 => rfl
  | 22 => rfl
  | 23 => rfl
  | 24 => rfl
  | 25 => rfl
  | 26 => rfl
  | 27 => rfl
  | 28 => rfl
  | 29 => rfl
  | 30 => rfl
  | 31 => rfl
  | 32 => rfl
  | 33 => rfl
  | 34 => rfl
  | 35 => rfl
  | 36 => rfl
  | 37 => rfl
  | 38 => rfl
  | 39 => rfl
  | 40 => rfl
  | 41 => rfl
  | 42 => rfl
  | 43 => rfl
  | 44 => rfl
  | 45 => rfl
  | 46 => rfl
  | 47 => rfl
  | 48 => rfl
  | 49 => rfl
  | 50 => rfl
  | 51 => rfl
  | 52 => rfl
  | 53 => rfl
  | 54 => rfl
  | 55 => rfl
  | 56 => rfl
  | 57 => rfl
  | 58 => rfl
  | 59 => rfl
  | 60 => rfl
  | 61 => rfl
  | 62 => rfl
  | 63 => rfl
  | 64 => rfl
  | 65 => rfl
  | 66 => rfl
  | 67 => rfl
  | 68 => rfl
  | 69 => rfl
  | 70 => rfl
  | 71 => rfl
  | 72 => rfl
  | 73 => rfl
  | 74 => rfl
  | 75 => rfl
  | 76 => rfl
  | 77 => rfl
  | 78 => rfl
  | 79 => rfl
  | 80 => rfl
  | 81 => rfl
  | 82 => rfl
  | 83 => rfl
  | 84 => rfl
  | 85 => rfl
  | 86 => rfl
  | 87 => rfl
  | 88 => rfl
  | 89 => rfl
  | 90 => rfl
  | 91 => rfl
  | 92 => rfl
  | 93 => rfl
  | 94 => rfl
  | 95 => rfl
  | 96 => rfl
  | 97 => rfl
  | 98 => rfl
  | 99 => rfl
  | 100 => rfl
  | 101 => rfl
  | 102 => rfl
  | 103 => rfl
  | 104 => rfl
  | 105 => rfl
  | 106 => rfl
  | 107 => rfl
  | 108 => rfl
  | 109 => rfl
  | 110 => rfl
  | 111 => rfl
  | 112 => rfl
  | 113 => rfl
  | 114 => rfl
  | 115 => rfl
  | 116 => rfl
  | 117 => rfl
  | 118 => rfl
  | 119 => rfl
  | 120 => rfl
  | 121 => rfl
  | 122 => rfl
  | 123 => rfl
  | 124 => rfl
  | 125 => rfl
  | 126 => rfl
  | 127 => rfl
  | 128 => rfl
  | 129 => rfl
  | 130 => rfl
  | 131 => rfl
  | 132 => rfl
  | 133 => rfl
  | 134 => rfl
  | 135 => rfl
  | 136 => rfl
  | 137 => rfl
  | 138 => rfl
  | 139 => rfl
  | 140 => rfl
  | 141 => rfl
  | 142 => rfl
  | 143 => rfl
  | 144 => rfl
  | 145 => rfl
  | 146 => rfl
  | 147 => rfl
  | 148 => rfl
  | 149 => rfl
  | 150 => rfl
  | 151 => rfl
  | 152 => rfl
  | 153 => rfl
  | 154 => rfl
  | 155 => rfl
  | 156 => rfl
  | 157 => rfl
  | 158 => rfl
  | 159 => rfl
  | 160 => rfl
  | 161 => rfl
  | 162 => rfl
  | 163 => rfl
  | 164 => rfl
  | 165 => rfl
  | 166 => rfl
  | 167 => rfl
  | 168 => rfl
  | 169 => rfl
  | 170 => rfl
  | 171 => rfl
  | 172 => rfl
  | 173 => rfl
  | 174 => rfl
  | 175 => rfl
  | 176 => rfl
  | 177 => rfl
  | 178 => rfl
  | 179 => rfl
  | 180 => rfl
  | 181 => rfl
  | 182 => rfl
  | 183 => rfl
  | 184 => rfl
  | 185 => rfl
  | 186 => rfl
  | 187 => rfl
  | 188 => rfl
  | 189 => rfl
  | 190 => rfl
  | 191 => rfl
  | 192 => rfl
  | 193 => rfl
  | 194 => rfl
  | 195 => rfl
  | 196 => rfl
  | 197 => rfl
  | 198 => rfl
  | 199 => rfl
  | 200 => rfl
  | 201 => rfl
  | 202 => rfl
  | k + 203 => by
    rw [mm_none ac lo (k + 203) f g (by omega)]
    have h0 : am_ly (k + 203) = (0, 0, []) := by
      unfold am_ly
      by_cases h9 : k + 203 < 208
      · rcases (by omega : k = 0 ∨ k = 1 ∨ k = 2 ∨ k = 3 ∨ k = 4) with rfl | rfl | rfl | rfl | rfl <;> rfl
      · have hb : Nat.blt (k + 203) 208 = false := by
          cases hh : Nat.blt (k + 203) 208 with
          | false => rfl
          | true => exact absurd (Nat.le_of_ble_eq_true hh) (by omega)
        rw [hb]
        rfl
    unfold am_sh
    rw [h0]
def am_i (st : List am_V) (k : Int32 → List am_V → am_O) : am_O := match st with
  | .inl a :: r => k a r
  | _ => am_no
def am_ii (st : List am_V) (k : Int32 → Int32 → List am_V → am_O) : am_O := match st with
  | .inl b :: .inl a :: r => k a b r
  | _ => am_no
def am_l (st : List am_V) (k : Int64 → List am_V → am_O) : am_O := match st with
  | .inr (.inl a) :: r => k a r
  | _ => am_no
def am_ll (st : List am_V) (k : Int64 → Int64 → List am_V → am_O) : am_O := match st with
  | .inr (.inl b) :: .inr (.inl a) :: r => k a b r
  | _ => am_no
def am_li (st : List am_V) (k : Int64 → Int32 → List am_V → am_O) : am_O := match st with
  | .inl b :: .inr (.inl a) :: r => k a b r
  | _ => am_no
def am_a (st : List am_V) (k : Nat → List am_V → am_O) : am_O := match st with
  | .inr (.inr (some a)) :: r => k a r
  | _ => am_no
def am_ai (st : List am_V) (k : Nat → Int32 → List am_V → am_O) : am_O := match st with
  | .inl i :: .inr (.inr (some a)) :: r => k a i r
  | _ => am_no
def am_aii (st : List am_V) (k : Nat → Int32 → Int32 → List am_V → am_O) : am_O := match st with
  | .inl v :: .inl i :: .inr (.inr (some a)) :: r => k a i v r
  | _ => am_no
def am_ail (st : List am_V) (k : Nat → Int32 → Int64 → List am_V → am_O) : am_O := match st with
  | .inr (.inl v) :: .inl i :: .inr (.inr (some a)) :: r => k a i v r
  | _ => am_no
def am_aia (st : List am_V) (k : Nat → Int32 → Nat → List am_V → am_O) : am_O := match st with
  | .inr (.inr (some u)) :: .inl i :: .inr (.inr (some a)) :: r => k a i u r
  | _ => am_no
def am_av (st : List am_V) (k : Nat → am_V → List am_V → am_O) : am_O := match st with
  | v :: .inr (.inr (some a)) :: r => k a v r
  | _ => am_no
def am_cp (st : List am_V) (k : Nat → Int32 → Nat → Int32 → Int32 → List am_V → am_O) : am_O := match st with
  | .inl n :: .inl dp :: .inr (.inr (some da)) :: .inl sp :: .inr (.inr (some sa)) :: r => k sa sp da dp n r
  | _ => am_no
def am_one (st : List am_V) (k : am_V → List am_V → am_O) : am_O := match st with
  | .inr (.inl _) :: _ => am_no
  | v :: r => k v r
  | [] => am_no
def am_rv (st : List am_V) (k : am_O) : am_O := match st with
  | [] => k
  | _ => am_no
def am_Li (L : am_L) (x : Nat) (k : Int32 → am_O) : am_O := match L[x]? with
  | some (some (.inl v)) => k v
  | _ => am_no
def am_Ll (L : am_L) (x : Nat) (k : Int64 → am_O) : am_O := match L[x]? with
  | some (some (.inr (.inl v))) => k v
  | _ => am_no
def am_La (L : am_L) (x : Nat) (k : Option Nat → am_O) : am_O := match L[x]? with
  | some (some (.inr (.inr v))) => k v
  | _ => am_no
def am_kil : Option am_V → Option am_V
  | some (.inr (.inl _)) => none
  | a => a
def am_nn : am_L → am_L
  | [] => []
  | _ :: r => none :: r
/-- a place is written (a long just ahead of it goes) -/
def am_s1 : am_L → Nat → am_V → am_L
  | [], _, _ => []
  | _ :: r, 0, v => some v :: r
  | a :: r, 1, v => am_kil a :: am_s1 r 0 v
  | a :: r, i + 2, v => a :: am_s1 r (i + 1) v
def am_s2 : am_L → Nat → am_V → am_L
  | [], _, _ => []
  | _ :: r, 0, v => some v :: am_nn r
  | a :: r, 1, v => am_kil a :: am_s2 r 0 v
  | a :: r, i + 2, v => a :: am_s2 r (i + 1) v
def am_cat : am_V → Nat
  | .inr (.inl _) => 2
  | _ => 1
def am_cs (r : List am_V) : Nat := (r.map am_cat).sum
/-- an int's (a long's) end, of a type -/
def am_ri (rt : Option FieldType) (a : Int32) (M : mm_M) : am_O := match rt with
  | some .int => am_rt True (.inl (some (.inl a))) M
  | some ty => am_rt (narrow ty (.int a) = .int a) (.inl (some (.inl a))) M
  | none => am_no
/-- a field is read -/
def am_gf (M : mm_M) (k x y : Nat) (K : am_V → am_O) : am_O := bif Nat.beq (am_ly k).1 (x + 10) then (match (am_ly k).2.2[y]? with
  | some 0 => K (.inl (M.1 k y))
  | some 1 => K (.inr (.inl (M.2 k y)))
  | some 2 => (bif M.1 k y == 0 then K (.inr (.inr none)) else K (.inr (.inr (some 1))))
  | some (c + 3) => K (.inr (.inr (some c)))
  | none => am_no) else am_no
/-- a field is written -/
def am_pf (M : mm_M) (k x y : Nat) (v : am_V) (K : mm_M → am_S) : am_O := bif Nat.beq (am_ly k).1 (x + 10) then (match (am_ly k).2.2[y]? with
  | some 0 => (match v with
    | .inl a => (match xp_fty x y with
      | .int => am_nx (K (mm_i M k (upd (M.1 k) y a)))
      | ty => am_ob (xm_fit ty (.int a)) (K (mm_i M k (upd (M.1 k) y a))))
    | _ => am_no)
  | some 1 => (match v with
    | .inr (.inl a) => (match xp_fty x y with
      | .long => am_nx (K (mm_l M k (vp_updL (M.2 k) y a)))
      | _ => am_no)
    | _ => am_no)
  | some 2 => (match v with
    | .inr (.inr (some 1)) => am_ob (∀ q : Nat, xm_fit (xp_fty x y) (.ref q)) (K (mm_i M k (upd (M.1 k) y 1)))
    | _ => am_no)
  | _ => am_no) else am_no
/-- an array of a sort -/
def am_ar (c k : Nat) (K : Nat → am_O) : am_O := bif Nat.beq (am_ly k).1 c then K (am_ly k).2.1 else am_no
/-- the arrays that nobody writes -/
def am_sa (k : Nat) (K : Nat → (Nat → Int32) → am_O) : am_O := match k with
  | 1000 => K 8 (fun j => xp_a0.getD j 0)
  | 1001 => K 11 (fun j => xp_a1.getD j 0)
  | 1002 => K 7 (fun j => xp_a2.getD j 0)
  | 1003 => K 5 (fun j => xp_a3.getD j 0)
  | 1004 => K 12 (fun j => xp_a4.getD j 0)
  | 1005 => K 15 (fun j => xp_a5.getD j 0)
  | 1006 => K 15 (fun j => xp_a6.getD j 0)
  | _ => am_no
def am_ma (w : Int32) (st : List am_V) (K : List am_V → am_S) : am_O := bif w == -2 then am_ii st fun a b r => bif Nat.ble (am_cs r) 8 then am_nx (K (.inl (if a < b then b else a) :: r)) else am_no
  else bif w == -3 then am_ii st fun a b r => bif Nat.ble (am_cs r) 8 then am_nx (K (.inl (if b < a then b else a) :: r)) else am_no
  else am_ll st fun a b r => bif Nat.ble (am_cs r) 8 then am_nx (K (.inr (.inl (if b < a then a else b)) :: r)) else am_no
/-- the String constants that are read: their bytes -/
def am_lit (k : Nat) : Option (List Int32) := match k with
  | 1007 => some xp_l0
  | 1008 => some xp_l1
  | 1009 => some xp_l2
  | 1010 => some xp_l3
  | _ => none
/-- charAt, indexOf -/
def am_chr (bs : List Int32) (j : Int32) : Int32 := bs.getD j.toNatClampNeg 0
def am_ixF (c : Int32) : List Int32 → Nat → Int32
  | [], _ => -1
  | b :: l, k => if b = c then nI k else am_ixF c l (k + 1)
def am_str (d x : Nat) (st : List am_V) (K : Int32 → List am_V → am_S) : am_O := am_ai st fun a j r => bif Nat.ble (am_cs r) 8 then (match am_lit a with
  | some bs => (bif Nat.beq x 0 then am_ob (4 ≤ d ∧ vp_in j bs.length) (K (am_chr bs j) r) else bif Nat.beq x 4 then am_ob (4 ≤ d) (K (am_ixF j bs 0) r) else am_no)
  | none => am_no) else am_no
def am_st (d : Nat) (t : Bool) (rt : Option FieldType) (q : Option xm_I) (pc : Nat) (L : am_L) (st : List am_V) (M : mm_M) : am_O :=
  match q with
  | none => am_no
  | some (i, x, y, w, v, ts) => match i with
    | .iconst _ => am_nx (pc + 1, L, .inl w :: st, M)
    | .bipush _ => am_nx (pc + 2, L, .inl w :: st, M)
    | .sipush _ => am_nx (pc + 3, L, .inl w :: st, M)
    | .ldc _ => bif Nat.beq x 1 then (bif Nat.blt y 4 then am_nx (pc + 2, L, .inr (.inr (some (1007 + y))) :: st, M) else am_no) else am_nx (pc + 2, L, .inl w :: st, M)
    | .ldc_w _ => am_nx (pc + 3, L, .inl w :: st, M)
    | .lconst _ => am_nx (pc + 1, L, .inr (.inl v) :: st, M)
    | .ldc2_w _ => am_nx (pc + 3, L, .inr (.inl v) :: st, M)
    | .aconst_null => am_nx (pc + 1, L, .inr (.inr none) :: st, M)
    | .iload_n _ => am_Li L x fun a => am_nx (pc + 1, L, .inl a :: st, M)
    | .iload _ => am_Li L x fun a => am_nx (pc + 2, L, .inl a :: st, M)
    | .lload_n _ => am_Ll L x fun a => am_nx (pc + 1, L, .inr (.inl a) :: st, M)
    | .lload _ => am_Ll L x fun a => am_nx (pc + 2, L, .inr (.inl a) :: st, M)
    | .aload_n _ => am_La L x fun a => am_nx (pc + 1, L, .inr (.inr a) :: st, M)
    | .aload _ => am_La L x fun a => am_nx (pc + 2, L, .inr (.inr a) :: st, M)
    | .istore_n _ => am_i st fun a r => bif Nat.blt x L.length then am_nx (pc + 1, am_s1 L x (.inl a), r, M) else am_no
    | .istore _ => am_i st fun a r => bif Nat.blt x L.length then am_nx (pc + 2, am_s1 L x (.inl a), r, M) else am_no
    | .lstore_n _ => am_l st fun a r => bif Nat.blt (x + 1) L.length then am_nx (pc + 1, am_s2 L x (.inr (.inl a)), r, M) else am_no
    | .lstore _ => am_l st fun a r => bif Nat.blt (x + 1) L.length then am_nx (pc + 2, am_s2 L x (.inr (.inl a)), r, M) else am_no
    | .astore_n _ => am_a st fun a r => bif Nat.blt x L.length then am_nx (pc + 1, am_s1 L x (.inr (.inr (some a))), r, M) else am_no
    | .astore _ => am_a st fun a r => bif Nat.blt x L.length then am_nx (pc + 2, am_s1 L x (.inr (.inr (some a))), r, M) else am_no
    | .iinc _ _ => am_Li L x fun a => bif Nat.blt x L.length then am_nx (pc + 3, am_s1 L x (.inl (a + w)), st, M) else am_no
    | .iadd => am_ii st fun a b r => am_nx (pc + 1, L, .inl (a + b) :: r, M)
    | .isub => am_ii st fun a b r => am_nx (pc + 1, L, .inl (a - b) :: r, M)
    | .imul => am_ii st fun a b r => am_nx (pc + 1, L, .inl (a * b) :: r, M)
    | .iand => am_ii st fun a b r => am_nx (pc + 1, L, .inl (a &&& b) :: r, M)
    | .ior => am_ii st fun a b r => am_nx (pc + 1, L, .inl (a ||| b) :: r, M)
    | .ixor => am_ii st fun a b r => am_nx (pc + 1, L, .inl (a ^^^ b) :: r, M)
    | .ishl => am_ii st fun a b r => am_nx (pc + 1, L, .inl (a <<< (b &&& 31)) :: r, M)
    | .ishr => am_ii st fun a b r => am_nx (pc + 1, L, .inl (a >>> (b &&& 31)) :: r, M)
    | .iushr => am_ii st fun a b r => am_nx (pc + 1, L, .inl ((a.toUInt32 >>> (b.toUInt32 &&& Int32.toUInt32 31)).toInt32) :: r, M)
    | .idiv => am_ii st fun a b r => am_ob (¬ b = 0) (pc + 1, L, .inl (a / b) :: r, M)
    | .irem => am_ii st fun a b r => am_ob (¬ b = 0) (pc + 1, L, .inl (a - a / b * b) :: r, M)
    | .ineg => am_i st fun a r => am_nx (pc + 1, L, .inl (-a) :: r, M)
    | .ladd => am_ll st fun a b r => am_nx (pc + 1, L, .inr (.inl (a + b)) :: r, M)
    | .lsub => am_ll st fun a b r => am_nx (pc + 1, L, .inr (.inl (a - b)) :: r, M)
    | .lmul => am_ll st fun a b r => am_nx (pc + 1, L, .inr (.inl (a * b)) :: r, M)
    | .land => am_ll st fun a b r => am_nx (pc + 1, L, .inr (.inl (a &&& b)) :: r, M)
    | .lor => am_ll st fun a b r => am_nx (pc + 1, L, .inr (.inl (a ||| b)) :: r, M)
    | .lxor => am_ll st fun a b r => am_nx (pc + 1, L, .inr (.inl (a ^^^ b)) :: r, M)
    | .ldiv => am_ll st fun a b r => am_ob (¬ b = 0) (pc + 1, L, .inr (.inl (a / b)) :: r, M)
    | .lrem => am_ll st fun a b r => am_ob (¬ b = 0) (pc + 1, L, .inr (.inl (a - a / b * b)) :: r, M)
    | .lneg => am_l st fun a r => am_nx (pc + 1, L, .inr (.inl (-a)) :: r, M)
    | .lshl => am_li st fun a b r => am_nx (pc + 1, L, .inr (.inl (a <<< (b.toInt64 &&& 63))) :: r, M)
    | .lshr => am_li st fun a b r => am_nx (pc + 1, L, .inr (.inl (a >>> (b.toInt64 &&& 63))) :: r, M)
    | .lushr => am_li st fun a b r => am_nx (pc + 1, L, .inr (.inl ((a.toUInt64 >>> (b.toInt64.toUInt64 &&& Int64.toUInt64 63)).toInt64)) :: r, M)
    | .i2l => am_i st fun a r => am_nx (pc + 1, L, .inr (.inl a.toInt64) :: r, M)
    | .l2i => am_l st fun a r => am_nx (pc + 1, L, .inl a.toInt32 :: r, M)
    | .i2b => am_i st fun a r => am_nx (pc + 1, L, .inl a.toInt8.toInt32 :: r, M)
    | .i2c => am_i st fun a r => am_nx (pc + 1, L, .inl (a.toUInt32 % 65536).toInt32 :: r, M)
    | .dup => am_one st fun u r => am_nx (pc + 1, L, u :: u :: r, M)
    | .pop => am_one st fun _ r => am_nx (pc + 1, L, r, M)
    | .dup_x1 => am_one st fun u r => am_one r fun t r => am_nx (pc + 1, L, u :: t :: u :: r, M)
    | .dup2 => am_one st fun u r => am_one r fun t r => am_nx (pc + 1, L, u :: t :: u :: t :: r, M)
    | .goto _ => am_nx (x, L, st, M)
    | .ifCond .eq _ => am_i st fun a r => am_br (a = 0) (x, L, r, M) (pc + 3, L, r, M)
    | .ifCond .ne _ => am_i st fun a r => am_br (¬ a = 0) (x, L, r, M) (pc + 3, L, r, M)
    | .ifCond .lt _ => am_i st fun a r => am_br (a < 0) (x, L, r, M) (pc + 3, L, r, M)
    | .ifCond .ge _ => am_i st fun a r => am_br (0 ≤ a) (x, L, r, M) (pc + 3, L, r, M)
    | .ifCond .gt _ => am_i st fun a r => am_br (0 < a) (x, L, r, M) (pc + 3, L, r, M)
    | .ifCond .le _ => am_i st fun a r => am_br (a ≤ 0) (x, L, r, M) (pc + 3, L, r, M)
    | .if_icmp .eq _ => am_ii st fun a b r => am_br (a = b) (x, L, r, M) (pc + 3, L, r, M)
    | .if_icmp .ne _ => am_ii st fun a b r => am_br (¬ a = b) (x, L, r, M) (pc + 3, L, r, M)
    | .if_icmp .lt _ => am_ii st fun a b r => am_br (a < b) (x, L, r, M) (pc + 3, L, r, M)
    | .if_icmp .ge _ => am_ii st fun a b r => am_br (b ≤ a) (x, L, r, M) (pc + 3, L, r, M)
    | .if_icmp .gt _ => am_ii st fun a b r => am_br (b < a) (x, L, r, M) (pc + 3, L, r, M)
    | .if_icmp .le _ => am_ii st fun a b r => am_br (a ≤ b) (x, L, r, M) (pc + 3, L, r, M)
    | .lcmp => am_ll st fun a b r => am_nx (pc + 1, L, .inl (lg_cmp a b) :: r, M)
    | .tableswitch _ _ _ _ => am_i st fun a r => am_sw a ts (x, L, r, M)
    | .lookupswitch _ _ => am_i st fun a r => am_sw a ts (x, L, r, M)
    | .getfield _ => am_a st fun a r => am_gf M a x y fun u => am_nx (pc + 3, L, u :: r, M)
    | .putfield _ => am_av st fun a u r => am_pf M a x y u fun M' => (pc + 3, L, r, M')
    | .iaload => am_ai st fun a j r => bif w == -1 then am_sa a fun n f => am_ob (vp_in j n) (pc + 1, L, .inl (f j.toNatClampNeg) :: r, M) else am_ar 1 a fun n => am_ob (vp_in j n) (pc + 1, L, .inl (M.1 a j.toNatClampNeg) :: r, M)
    | .laload => am_ai st fun a j r => am_ar 2 a fun n => am_ob (vp_in j n) (pc + 1, L, .inr (.inl (M.2 a j.toNatClampNeg)) :: r, M)
    | .caload => am_ai st fun a j r => am_ar 5 a fun n => am_ob (vp_in j n) (pc + 1, L, .inl (M.1 a j.toNatClampNeg) :: r, M)
    | .baload => am_ai st fun a j r => bif (Nat.beq x 2 || Nat.beq x 3) then (am_ar (x + 1) a fun n => am_ob (vp_in j n) (pc + 1, L, .inl (M.1 a j.toNatClampNeg) :: r, M)) else am_no
    | .aaload => am_ai st fun a j r => am_ar 6 a fun n => bif Nat.beq n 3 then am_ob (vp_in j 3 ∧ (M.1 a j.toNatClampNeg).toNatClampNeg < 3) (pc + 1, L, .inr (.inr (some (a + 1 + (M.1 a j.toNatClampNeg).toNatClampNeg))) :: r, M) else am_no
    | .iastore => am_aii st fun a j u r => am_ar 1 a fun n => am_ob (vp_in j n) (pc + 1, L, r, mm_i M a (upd (M.1 a) j.toNatClampNeg u))
    | .lastore => am_ail st fun a j u r => am_ar 2 a fun n => am_ob (vp_in j n) (pc + 1, L, r, mm_l M a (vp_updL (M.2 a) j.toNatClampNeg u))
    | .castore => am_aii st fun a j u r => am_ar 5 a fun n => am_ob (vp_in j n) (pc + 1, L, r, mm_i M a (upd (M.1 a) j.toNatClampNeg (vp_nar .char u)))
    | .bastore => am_aii st fun a j u r => bif (Nat.beq x 2 || Nat.beq x 3) then (am_ar (x + 1) a fun n => am_ob (vp_in j n) (pc + 1, L, r, mm_i M a (upd (M.1 a) j.toNatClampNeg (vp_nar (if x = 2 then .boolean else .byte) u)))) else am_no
    | .arraylength => am_a st fun a r => bif w == -1 then am_sa a fun n _ => am_nx (pc + 1, L, .inl (Int32.ofNat n) :: r, M) else bif w == -2 then am_no else bif (Nat.ble 1 (am_ly a).1 && Nat.ble (am_ly a).1 6) then am_nx (pc + 1, L, .inl (Int32.ofNat (am_ly a).2.1) :: r, M) else am_no
    | .ireturn => match st with
      | [.inl a] => am_ri rt a M
      | _ => am_no
    | .lreturn => match st, rt with
      | [.inr (.inl a)], some .long => am_rt True (.inl (some (.inr (.inl a)))) M
      | _, _ => am_no
    | .return_ => match st, rt with
      | [], none => am_rt True (.inl none) M
      | _, _ => am_no
    | .invokestatic _ => bif w == -1 then am_cp st fun sa sp da dp n r => am_ar 1 sa fun n0 => am_ar 1 da fun n1 => bif Nat.ble (am_cs r) 8 then am_ob (¬ sp < 0 ∧ ¬ dp < 0 ∧ ¬ n < 0 ∧ sp.toNatClampNeg + n.toNatClampNeg ≤ n0 ∧ dp.toNatClampNeg + n.toNatClampNeg ≤ n1) (pc + 3, L, r, mm_i M da (va_cpy (M.1 sa) (M.1 da) sp.toNatClampNeg dp.toNatClampNeg n.toNatClampNeg)) else am_no
      else bif decide (w < -1) then am_ma w st fun st' => (pc + 3, L, st', M)
      else bif Nat.ble y st.length then (bif Nat.ble (am_cs (st.drop y)) 8 then am_cl x (st.take y).reverse (pc + 3, L, st.drop y, M) else am_no) else am_no
    | .invokevirtual _ => bif w == -1 then (bif Nat.beq y 1 then am_str d x st fun u r => (pc + 3, L, .inl u :: r, M) else am_no) else match st.drop y with
      | .inr (.inr (some b)) :: r => bif Nat.beq (am_ly b).1 (xp.2.2.2.2.2.2.1 x + 10) then (bif Nat.ble (am_cs r) 8 then am_cl x (.inr (.inr (some b)) :: (st.take y).reverse) (pc + 3, L, r, M) else am_no) else am_no
      | _ => am_no
    | .getstatic _ => bif Nat.blt x 7 then am_nx (pc + 3, L, .inr (.inr (some (1000 + x))) :: st, M) else am_no
    | .new _ => bif w == -1 then (bif Nat.ble (am_cs st) 8 then am_rt (7 ≤ d ∧ t = true) (.inr (xm_ex x)) M else am_no) else am_no
    | .aastore => am_aia st fun a j u r => am_ar 6 a fun n => bif (Nat.beq n 3 && (Nat.ble (a + 1) u && (Nat.blt u (a + 4) && Nat.beq (am_ly u).1 1))) then am_ob (vp_in j 3) (pc + 1, L, r, mm_i M a (upd (M.1 a) j.toNatClampNeg (Int32.ofNat (u - (a + 1))))) else am_no
    | _ => am_no
def am_G (cs : am_C) (post : am_Q) (X : am_X) : am_O → Prop
  | .inl (pc, L, st, M) => X pc L st M
  | .inr (.inl (c, pc, L, st, M)) => c ∧ X pc L st M
  | .inr (.inr (.inl (c, (pc, L, st, M), (pc', L', st', M')))) => xm_br c (X pc L st M) (X pc' L' st' M')
  | .inr (.inr (.inr (.inl (a, ts, pc, L, st, M)))) => xm_sw a (fun p => X p L st M) pc ts
  | .inr (.inr (.inr (.inr (.inl (x, as, pc, L, st, M))))) => ∃ q : am_Q, cs x as M q ∧ ∀ r M', q r M' → ∃ v : Option am_V, r = .inl v ∧ X pc L (v.toList ++ st) M'
  | .inr (.inr (.inr (.inr (.inr (.inl (c, r, M)))))) => c ∧ post r M
  | .inr (.inr (.inr (.inr (.inr (.inr _))))) => False
theorem am_G_m {cs : am_C} {post : am_Q} {X Y : am_X} (m : ∀ pc L st M, X pc L st M → Y pc L st M) : ∀ {o : am_O}, am_G cs post X o → am_G cs post Y o
  | .inl (_, _, _, _), h => m _ _ _ _ h
  | .inr (.inl (_, _, _, _, _)), h => ⟨h.1, m _ _ _ _ h.2⟩
  | .inr (.inr (.inl (_, (_, _, _, _), (_, _, _, _)))), h => ⟨fun c => m _ _ _ _ (h.1 c), fun c => m _ _ _ _ (h.2 c)⟩
  | .inr (.inr (.inr (.inl (_, _, _, _, _, _)))), h => xm_sw_m (fun _ q => m _ _ _ _ q) h
  | .inr (.inr (.inr (.inr (.inl (_, _, _, _, _, _))))), h => by
    obtain ⟨q, h1, h2⟩ := h
    refine ⟨q, h1, fun r M' hq => ?_⟩
    obtain ⟨v, e, hx⟩ := h2 r M' hq
    exact ⟨v, e, m _ _ _ _ hx⟩
  | .inr (.inr (.inr (.inr (.inr (.inl (_, _, _)))))), h => h
/-- k steps -/
def am_GS (d : Nat) (t : Bool) (rt : Option FieldType) (tb : Nat → Option xm_I) (cs : am_C) (post : am_Q) (X : am_X) (pc : Nat) (L : am_L) (st : List am_V) (M : mm_M) : Prop := am_G cs post X (am_st d t rt (tb pc) pc L st M)
def am_go (d : Nat) (t : Bool) (rt : Option FieldType) (tb : Nat → Option xm_I) (cs : am_C) (post : am_Q) (X : am_X) : Nat → am_X
  | 0 => X
  | k + 1 => am_GS d t rt tb cs post (am_go d t rt tb cs post X k)
theorem am_run {d : Nat} {t : Bool} {rt : Option FieldType} {tb : Nat → Option xm_I} {cs : am_C} {post : am_Q} {X : am_X} (hX : ∀ pc L st M, am_G cs post X (am_st d t rt (tb pc) pc L st M) → X pc L st M) : ∀ (k pc : Nat) (L : am_L) (st : List am_V) (M : mm_M), am_go d t rt tb cs post X k pc L st M → X pc L st M
  | 0, _, _, _, _, q => q
  | k + 1, _, _, _, _, q => hX _ _ _ _ (am_G_m (am_run hX k) q)
def am_en : List am_V → am_L
  | [] => []
  | .inr (.inl a) :: vs => some (.inr (.inl a)) :: none :: am_en vs
  | v :: vs => some v :: am_en vs
def am_s0 (nL : Nat) (vs : List am_V) : am_L := am_en vs ++ List.replicate (nL - (am_en vs).length) none
/-- method x, called at depth d; whether it may throw -/
def am_M : Nat → Bool → am_C
  | 0 => fun _ _ _ _ _ => False
  | d + 1 => fun t x as M post => ((xp_row x).2.2.2.2.1.lookup 0).isSome = true ∧ (xp_row x).2.2.2.2.2.2.2 = [] ∧ Nat.ble (am_en as).length (xp_row x).2.2.1 = true ∧ ∀ X : am_X,
      (∀ pc L st M, am_G (am_M d false) post X (am_st d t (xp_row x).2.2.2.1 ((xp_row x).2.2.2.2.1.lookup pc) pc L st M) → X pc L st M) → X 0 (am_s0 (xp_row x).2.2.1 as) [] M
