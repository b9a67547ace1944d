/-! THE INVARIANT: its pieces -/
/-- the RUN, over the bank -/
def ruP (M : mm_M) (n : Nat) (F : Nat → Nat × List bk_X) : Prop := (M.1 17 5 = -1 ∧ M.1 108 65 = 0) ∨ ∃ c k xs dn tk b, c < n ∧ (ru_s M c (F c).1 k ∧ ru_n M (F c).1 k xs) ∧ (M.1 17 7 = nI dn ∧ M.1 108 67 = nI dn ∧ M.1 17 8 = nI tk ∧ M.1 108 68 = nI tk ∧ M.1 17 9 = nI b ∧ M.1 108 70 = nI b ∧ M.2 17 11 = M.2 108 69) ∧ dn ≤ (F c).2.length ∧ tk ≤ dn ∧ b < 2 ^ 8 ∧ k ≤ hcn (zg (F c).2) dn ∧ nzS (F c).1 xs ∧ (M.1 17 10 = -1 ∨ gcG M (F c).1 xs) ∧ (M.1 108 74 = 0 ∨ M.1 108 74 = 1 ∧ grG M (F c).1 xs)
section IVC
variable {KI : List Nat} {KO : List (Nat × Nat)} {KL : List Nat} {M N : mm_M}
def i1D (M : mm_M) : Prop := ∃ t, ty_iv M t
theorem i1K (h : i1D M) (F : ivF KI KO KL M N) (c : ckM [1, 109] [(0, 14), (108, 2)] [] KI KO KL = true) : i1D N := by
  have h' : i1D (rsM [1, 109] [(0, 14), (108, 2)] [] M) := h
  rw [← ckM_e c F] at h'
  exact h'
def iBRD (M : mm_M) : Prop := ∃ n F, bkX M n F ∧ ruP M n F
theorem iBRK (h : iBRD M) (F : ivF KI KO KL M N) (c : ckM [10, 11, 12, 110, 111, 112, 113, 114, 115, 116, 117, 21, 22, 154, 155, 156] [(9, 7), (108, 6), (17, 5), (17, 6), (17, 7), (17, 8), (17, 9), (17, 10), (18, 2), (18, 3), (108, 65), (108, 66), (108, 67), (108, 68), (108, 70), (108, 71), (108, 74), (108, 77)] [17, 20, 108, 150] KI KO KL = true) : iBRD N := by
  have h' : iBRD (rsM [10, 11, 12, 110, 111, 112, 113, 114, 115, 116, 117, 21, 22, 154, 155, 156] [(9, 7), (108, 6), (17, 5), (17, 6), (17, 7), (17, 8), (17, 9), (17, 10), (18, 2), (18, 3), (108, 65), (108, 66), (108, 67), (108, 68), (108, 70), (108, 71), (108, 74), (108, 77)] [17, 20, 108, 150] M) := h
  rw [← ckM_e c F] at h'
  exact h'
def iRFD (M : mm_M) : Prop := ru_f M
theorem iRFK (h : iRFD M) (F : ivF KI KO KL M N) (c : ckM [] [(17, 7), (17, 8), (17, 9), (108, 67), (108, 68), (108, 70)] [] KI KO KL = true) : iRFD N := by
  have h' : iRFD (rsM [] [(17, 7), (17, 8), (17, 9), (108, 67), (108, 68), (108, 70)] [] M) := h
  rw [← ckM_e c F] at h'
  exact h'
def i3D (M : mm_M) : Prop := M.1 0 15 = M.1 108 4 ∧ M.1 0 16 = M.1 108 5
theorem i3K (h : i3D M) (F : ivF KI KO KL M N) (c : ckM [] [(0, 15), (0, 16), (108, 4), (108, 5)] [] KI KO KL = true) : i3D N := by
  have h' : i3D (rsM [] [(0, 15), (0, 16), (108, 4), (108, 5)] [] M) := h
  rw [← ckM_e c F] at h'
  exact h'
def i4D (M : mm_M) : Prop := M.1 0 17 = M.1 108 85
theorem i4K (h : i4D M) (F : ivF KI KO KL M N) (c : ckM [] [(0, 17), (108, 85)] [] KI KO KL = true) : i4D N := by
  have h' : i4D (rsM [] [(0, 17), (108, 85)] [] M) := h
  rw [← ckM_e c F] at h'
  exact h'
def i5D (M : mm_M) : Prop := M.1 0 18 = M.1 108 147
theorem i5K (h : i5D M) (F : ivF KI KO KL M N) (c : ckM [] [(0, 18), (108, 147)] [] KI KO KL = true) : i5D N := by
  have h' : i5D (rsM [] [(0, 18), (108, 147)] [] M) := h
  rw [← ckM_e c F] at h'
  exact h'
def iNWD (M : mm_M) : Prop := nw_iv M
theorem iNWK (h : iNWD M) (F : ivF KI KO KL M N) (c : ckM [71, 166] [(81, 0)] [] KI KO KL = true) : iNWD N := by
  have h' : iNWD (rsM [71, 166] [(81, 0)] [] M) := h
  rw [← ckM_e c F] at h'
  exact h'
def iFMD (M : mm_M) : Prop := fm_iv M
theorem iFMK (h : iFMD M) (F : ivF KI KO KL M N) (c : ckM [67, 189] [(57, 14), (57, 15), (108, 129), (108, 130)] [] KI KO KL = true) : iFMD N := by
  have h' : iFMD (rsM [67, 189] [(57, 14), (57, 15), (108, 129), (108, 130)] [] M) := h
  rw [← ckM_e c F] at h'
  exact h'
def iLTD (M : mm_M) : Prop := le_t M
theorem iLTK (h : iLTD M) (F : ivF KI KO KL M N) (c : ckM [78] [] [] KI KO KL = true) : iLTD N := by
  have h' : iLTD (rsM [78] [] [] M) := h
  rw [← ckM_e c F] at h'
  exact h'
def iLFD (M : mm_M) : Prop := le_f M
theorem iLFK (h : iLFD M) (F : ivF KI KO KL M N) (c : ckM [193] [(108, 135)] [] KI KO KL = true) : iLFD N := by
  have h' : iLFD (rsM [193] [(108, 135)] [] M) := h
  rw [← ckM_e c F] at h'
  exact h'
def iTBD (M : mm_M) : Prop := ∃ n A B, tb_g M n A B ∧ nmG n A
theorem iTBK (h : iTBD M) (F : ivF KI KO KL M N) (c : ckM [26, 27, 28, 157, 158, 159] [(25, 3), (25, 4), (108, 81)] [] KI KO KL = true) : iTBD N := by
  have h' : iTBD (rsM [26, 27, 28, 157, 158, 159] [(25, 3), (25, 4), (108, 81)] [] M) := h
  rw [← ckM_e c F] at h'
  exact h'
def iWVD (M : mm_M) : Prop := wvJ M
theorem iWVK (h : iWVD M) (F : ivF KI KO KL M N) (c : ckM [42, 169, 170, 171] [(39, 6), (39, 7), (39, 9), (108, 98), (108, 99)] [39, 40, 41, 45] KI KO KL = true) : iWVD N := by
  have h' : iWVD (rsM [42, 169, 170, 171] [(39, 6), (39, 7), (39, 9), (108, 98), (108, 99)] [39, 40, 41, 45] M) := h
  rw [← ckM_e c F] at h'
  exact h'
def iCDD (M : mm_M) : Prop := cdI M
theorem iCDK (h : iCDD M) (F : ivF KI KO KL M N) (c : ckM [51, 52, 53, 54, 55, 56, 176, 177, 181, 182, 183, 184, 185] [(46, 10), (46, 11), (46, 17), (108, 109), (108, 110), (108, 111), (108, 124)] [] KI KO KL = true) : iCDD N := by
  have h' : iCDD (rsM [51, 52, 53, 54, 55, 56, 176, 177, 181, 182, 183, 184, 185] [(46, 10), (46, 11), (46, 17), (108, 109), (108, 110), (108, 111), (108, 124)] [] M) := h
  rw [← ckM_e c F] at h'
  exact h'
def iCHD (M : mm_M) : Prop := ∃ Lk, chJ M Lk
theorem iCHK (h : iCHD M) (F : ivF KI KO KL M N) (c : ckM [72, 195] [(70, 12)] [] KI KO KL = true) : iCHD N := by
  have h' : iCHD (rsM [72, 195] [(70, 12)] [] M) := h
  rw [← ckM_e c F] at h'
  exact h'
def i13D (M : mm_M) : Prop := M.1 70 13 = M.1 108 139
theorem i13K (h : i13D M) (F : ivF KI KO KL M N) (c : ckM [] [(70, 13), (108, 139)] [] KI KO KL = true) : i13D N := by
  have h' : i13D (rsM [] [(70, 13), (108, 139)] [] M) := h
  rw [← ckM_e c F] at h'
  exact h'
def iSMD (M : mm_M) : Prop := smI M
def smZ (a b : Nat) (M : mm_M) : Prop := ∃ A B, sm_r M a b ∧ csS M a 0 A ∧ csS M b 1 B ∧ rsS M 0 A ∧ rsS M 1 B ∧ okS A ∧ okS B ∧ wkM M ∧ ∀ z, z < 256 → M.2 101 z = 0 ∧ M.2 102 z = 0
theorem smZ_i (M : mm_M) : smI M ↔ smZ 0 1 M ∨ smZ 1 0 M := by
  constructor
  · rintro ⟨a, b, A, B, h, g⟩
    rcases h.1 with ⟨rfl, rfl⟩ | ⟨rfl, rfl⟩
    · exact Or.inl ⟨A, B, h, g⟩
    · exact Or.inr ⟨A, B, h, g⟩
  · rintro (⟨A, B, h⟩ | ⟨A, B, h⟩)
    · exact ⟨0, 1, A, B, h⟩
    · exact ⟨1, 0, A, B, h⟩
theorem iSMK (h : iSMD M) (F : ivF KI KO KL M N) (c : ckM [84, 88, 92, 85, 86, 89, 90, 93, 94, 96, 97, 141, 142, 143, 144, 145, 148, 149] [(108, 64)] [101, 102, 146, 147] KI KO KL = true) : iSMD N := by
  rcases (smZ_i M).mp h with h | h
  · have h' : smZ 0 1 (rsM [84, 88, 92, 85, 86, 89, 90, 93, 94, 96, 97, 141, 142, 143, 144, 145, 148, 149] [(108, 64)] [101, 102, 146, 147] M) := h
    rw [← ckM_e c F] at h'
    exact (smZ_i N).mpr (Or.inl h')
  · have h' : smZ 1 0 (rsM [84, 88, 92, 85, 86, 89, 90, 93, 94, 96, 97, 141, 142, 143, 144, 145, 148, 149] [(108, 64)] [101, 102, 146, 147] M) := h
    rw [← ckM_e c F] at h'
    exact (smZ_i N).mpr (Or.inr h')
def iDED (M : mm_M) : Prop := (M.1 104 1 = 0 ∧ M.1 108 88 = -1) ∨ ∃ w k xs, de_d M w k xs ∧ de_k M k ∧ lgD w k xs
theorem iDEK (h : iDED M) (F : ivF KI KO KL M N) (c : ckM [] [(104, 1), (104, 2), (104, 3), (105, 2), (105, 3), (108, 88), (108, 89), (108, 90)] [107, 162] KI KO KL = true) : iDED N := by
  have h' : iDED (rsM [] [(104, 1), (104, 2), (104, 3), (105, 2), (105, 3), (108, 88), (108, 89), (108, 90)] [107, 162] M) := h
  rw [← ckM_e c F] at h'
  exact h'
def iSCD (M : mm_M) : Prop := scZ M
theorem iSCK (h : iSCD M) (F : ivF KI KO KL M N) (c : ckM [62, 63] [(58, 3), (57, 9)] [64] KI KO KL = true) : iSCD N := by
  have h' : iSCD (rsM [62, 63] [(58, 3), (57, 9)] [64] M) := h
  rw [← ckM_e c F] at h'
  exact h'
def iRSD (M : mm_M) : Prop := rsZ M
theorem iRSK (h : iRSD M) (F : ivF KI KO KL M N) (c : ckM [136, 137, 138, 139] [(108, 48), (108, 49)] [] KI KO KL = true) : iRSD N := by
  have h' : iRSD (rsM [136, 137, 138, 139] [(108, 48), (108, 49)] [] M) := h
  rw [← ckM_e c F] at h'
  exact h'
def iWTD (M : mm_M) : Prop := wtI M
theorem iWTK (h : iWTD M) (F : ivF KI KO KL M N) (c : ckM [68, 69] [(57, 10)] [] KI KO KL = true) : iWTD N := by
  have h' : iWTD (rsM [68, 69] [(57, 10)] [] M) := h
  rw [← ckM_e c F] at h'
  exact h'
def iFCD (M : mm_M) : Prop := fcI M
theorem iFCK (h : iFCD M) (F : ivF KI KO KL M N) (c : ckM [191, 192] [(108, 131)] [190] KI KO KL = true) : iFCD N := by
  have h' : iFCD (rsM [191, 192] [(108, 131)] [190] M) := h
  rw [← ckM_e c F] at h'
  exact h'
def i29D (M : mm_M) : Prop := ∃ v, v ≤ 1 ∧ M.1 29 3 = nI v
theorem i29K (h : i29D M) (F : ivF KI KO KL M N) (c : ckM [] [(29, 3)] [] KI KO KL = true) : i29D N := by
  have h' : i29D (rsM [] [(29, 3)] [] M) := h
  rw [← ckM_e c F] at h'
  exact h'
/-- THE INVARIANT -/
def IV (M : mm_M) : Prop := i1D M ∧ iBRD M ∧ iRFD M ∧ i3D M ∧ i4D M ∧ i5D M ∧ iNWD M ∧ iFMD M ∧ iLTD M ∧ iLFD M ∧ iTBD M ∧ iWVD M ∧ iCDD M ∧ iCHD M ∧ i13D M ∧ iSMD M ∧ iDED M ∧ iSCD M ∧ iRSD M ∧ iWTD M ∧ iFCD M ∧ i29D M
/-- all that is not seen to change stays -/
theorem IV_k (h : IV M) (F : ivF KI KO KL M N) (c0 : ckM [1, 109] [(0, 14), (108, 2)] [] KI KO KL = true ∨ i1D N) (c1 : ckM [10, 11, 12, 110, 111, 112, 113, 114, 115, 116, 117, 21, 22, 154, 155, 156] [(9, 7), (108, 6), (17, 5), (17, 6), (17, 7), (17, 8), (17, 9), (17, 10), (18, 2), (18, 3), (108, 65), (108, 66), (108, 67), (108, 68), (108, 70), (108, 71), (108, 74), (108, 77)] [17, 20, 108, 150] KI KO KL = true ∨ iBRD N) (c2 : ckM [] [(17, 7), (17, 8), (17, 9), (108, 67), (108, 68), (108, 70)] [] KI KO KL = true ∨ iRFD N) (c3 : ckM [] [(0, 15), (0, 16), (108, 4), (108, 5)] [] KI KO KL = true ∨ i3D N) (c4 : ckM [] [(0, 17), (108, 85)] [] KI KO KL = true ∨ i4D N) (c5 : ckM [] [(0, 18), (108, 147)] [] KI KO KL = true ∨ i5D N) (c6 : ckM [71, 166] [(81, 0)] [] KI KO KL = true ∨ iNWD N) (c7 : ckM [67, 189] [(57, 14), (57, 15), (108, 129), (108, 130)] [] KI KO KL = true ∨ iFMD N) (c8 : ckM [78] [] [] KI KO KL = true ∨ iLTD N) (c9 : ckM [193] [(108, 135)] [] KI KO KL = true ∨ iLFD N) (c10 : ckM [26, 27, 28, 157, 158, 159] [(25, 3), (25, 4), (108, 81)] [] KI KO KL = true ∨ iTBD N) (c11 : ckM [42, 169, 170, 171] [(39, 6), (39, 7), (39, 9), (108, 98), (108, 99)] [39, 40, 41, 45] KI KO KL = true ∨ iWVD N) (c12 : ckM [51, 52, 53, 54, 55, 56, 176, 177, 181, 182, 183, 184, 185] [(46, 10), (46, 11), (46, 17), (108, 109), (108, 110), (108, 111), (108, 124)] [] KI KO KL = true ∨ iCDD N) (c13 : ckM [72, 195] [(70, 12)] [] KI KO KL = true ∨ iCHD N) (c14 : ckM [] [(70, 13), (108, 139)] [] KI KO KL = true ∨ i13D N) (c15 : ckM [84, 88, 92, 85, 86, 89, 90, 93, 94, 96, 97, 141, 142, 143, 144, 145, 148, 149] [(108, 64)] [101, 102, 146, 147] KI KO KL = true ∨ iSMD N) (c16 : ckM [] [(104, 1), (104, 2), (104, 3), (105, 2), (105, 3), (108, 88), (108, 89), (108, 90)] [107, 162] KI KO KL = true ∨ iDED N) (c17 : ckM [62, 63] [(58, 3), (57, 9)] [64] KI KO KL = true ∨ iSCD N) (c18 : ckM [136, 137, 138, 139] [(108, 48), (108, 49)] [] KI KO KL = true ∨ iRSD N) (c19 : ckM [68, 69] [(57, 10)] [] KI KO KL = true ∨ iWTD N) (c20 : ckM [191, 192] [(108, 131)] [190] KI KO KL = true ∨ iFCD N) (c21 : ckM [] [(29, 3)] [] KI KO KL = true ∨ i29D N) : IV N := by
  obtain ⟨h0, h1, h2, h3, h4, h5, h6, h7, h8, h9, h10, h11, h12, h13, h14, h15, h16, h17, h18, h19, h20, h21⟩ := h
  exact ⟨c0.elim (i1K h0 F) id, c1.elim (iBRK h1 F) id, c2.elim (iRFK h2 F) id, c3.elim (i3K h3 F) id, c4.elim (i4K h4 F) id, c5.elim (i5K h5 F) id, c6.elim (iNWK h6 F) id, c7.elim (iFMK h7 F) id, c8.elim (iLTK h8 F) id, c9.elim (iLFK h9 F) id, c10.elim (iTBK h10 F) id, c11.elim (iWVK h11 F) id, c12.elim (iCDK h12 F) id, c13.elim (iCHK h13 F) id, c14.elim (i13K h14 F) id, c15.elim (iSMK h15 F) id, c16.elim (iDEK h16 F) id, c17.elim (iSCK h17 F) id, c18.elim (iRSK h18 F) id, c19.elim (iWTK h19 F) id, c20.elim (iFCK h20 F) id, c21.elim (i29K h21 F) id⟩
end IVC
