/-! where exceptions are thrown -/
set_option maxRecDepth 100000 in
theorem vs_X11_amplitude (ad as : Nat → Nat) (sc : Nat × Nat × (Nat → Int32)) : ∀ pc ∈ [38], ∀ j x y w v ts, xl_X11_amplitude.lookup pc = some (.new j, x, y, w, v, ts) → xm_site (xp_sv ad as sc) RX11 cX11_amplitude xp_TB pc j x y := by
  intro pc hp j x y w v ts h
  simp only [List.mem_cons, List.not_mem_nil, or_false] at hp
  subst hp
  have e : xl_X11_amplitude.lookup 38 = some (.new 267, 2, 0, -1, 0, []) := rfl
  rw [e] at h
  cases h
  exact ⟨"no such ROOT", "java/lang/RuntimeException", ["java/lang/Exception"], 269, 271, as 0, 13, ⟨#[0x2a, 0x2b, 0xb7, 0x00, 0x0d, 0xb1]⟩, rfl, rfl, by decide +kernel, by decide +kernel, by decide +kernel, by decide, ⟨by decide +kernel, by decide +kernel, by decide +kernel, by decide +kernel⟩, xp_in (j := 8) (i := 147) (by decide +kernel) (xg_classLink _ _ _), xp_in (j := 0) (i := 28) (by decide +kernel) (xg_initialized _), (fun w hw => (xp_at0 w hw).imp (fun h => h) (fun h => (xp_sv_nw ad as sc).symm ▸ h)), by decide +kernel, by decide +kernel, Or.inr ⟨by decide +kernel, by decide +kernel, by decide +kernel⟩⟩
set_option maxRecDepth 100000 in
theorem vs_X11_circuit (ad as : Nat → Nat) (sc : Nat × Nat × (Nat → Int32)) : ∀ pc ∈ [22, 78], ∀ j x y w v ts, xl_X11_circuit.lookup pc = some (.new j, x, y, w, v, ts) → xm_site (xp_sv ad as sc) RX11 cX11_circuit xp_TB pc j x y := by
  intro pc hp j x y w v ts h
  simp only [List.mem_cons, List.not_mem_nil, or_false] at hp
  rcases hp with rfl | rfl
  · have e : xl_X11_circuit.lookup 22 = some (.new 120, 0, 1, -1, 0, []) := rfl
    rw [e] at h
    cases h
    exact ⟨"there are 20 circuits", "java/lang/RuntimeException", ["java/lang/Exception"], 122, 124, as 1, 7, ⟨#[0x2a, 0x2b, 0xb7, 0x00, 0x07, 0xb1]⟩, rfl, rfl, by decide +kernel, by decide +kernel, by decide +kernel, by decide, ⟨by decide +kernel, by decide +kernel, by decide +kernel, by decide +kernel⟩, xp_in (j := 7) (i := 101) (by decide +kernel) (xg_classLink _ _ _), xp_in (j := 0) (i := 18) (by decide +kernel) (xg_initialized _), (fun w hw => (xp_at1 w hw).imp (fun h => h) (fun h => (xp_sv_nw ad as sc).symm ▸ h)), by decide +kernel, by decide +kernel, Or.inl ⟨by decide +kernel, by decide +kernel, by decide +kernel⟩⟩
  · have e : xl_X11_circuit.lookup 78 = some (.new 134, 1, 2, -1, 0, []) := rfl
    rw [e] at h
    cases h
    exact ⟨"the TAPE has a FAULT", "java/lang/RuntimeException", ["java/lang/Exception"], 136, 138, as 2, 7, ⟨#[0x2a, 0x2b, 0xb7, 0x00, 0x07, 0xb1]⟩, rfl, rfl, by decide +kernel, by decide +kernel, by decide +kernel, by decide, ⟨by decide +kernel, by decide +kernel, by decide +kernel, by decide +kernel⟩, xp_in (j := 8) (i := 96) (by decide +kernel) (xg_classLink _ _ _), xp_in (j := 0) (i := 26) (by decide +kernel) (xg_initialized _), (fun w hw => (xp_at2 w hw).imp (fun h => h) (fun h => (xp_sv_nw ad as sc).symm ▸ h)), by decide +kernel, by decide +kernel, Or.inl ⟨by decide +kernel, by decide +kernel, by decide +kernel⟩⟩
set_option maxRecDepth 100000 in
theorem vs_X11_code (ad as : Nat → Nat) (sc : Nat × Nat × (Nat → Int32)) : ∀ pc ∈ [51], ∀ j x y w v ts, xl_X11_code.lookup pc = some (.new j, x, y, w, v, ts) → xm_site (xp_sv ad as sc) RX11 cX11_code xp_TB pc j x y := by
  intro pc hp j x y w v ts h
  simp only [List.mem_cons, List.not_mem_nil, or_false] at hp
  subst hp
  have e : xl_X11_code.lookup 51 = some (.new 134, 1, 2, -1, 0, []) := rfl
  rw [e] at h
  cases h
  exact ⟨"the TAPE has a FAULT", "java/lang/RuntimeException", ["java/lang/Exception"], 136, 138, as 2, 7, ⟨#[0x2a, 0x2b, 0xb7, 0x00, 0x07, 0xb1]⟩, rfl, rfl, by decide +kernel, by decide +kernel, by decide +kernel, by decide, ⟨by decide +kernel, by decide +kernel, by decide +kernel, by decide +kernel⟩, xp_in (j := 8) (i := 96) (by decide +kernel) (xg_classLink _ _ _), xp_in (j := 0) (i := 26) (by decide +kernel) (xg_initialized _), (fun w hw => (xp_at2 w hw).imp (fun h => h) (fun h => (xp_sv_nw ad as sc).symm ▸ h)), by decide +kernel, by decide +kernel, Or.inl ⟨by decide +kernel, by decide +kernel, by decide +kernel⟩⟩
set_option maxRecDepth 100000 in
theorem vs_X11_entry (ad as : Nat → Nat) (sc : Nat × Nat × (Nat → Int32)) : ∀ pc ∈ [50], ∀ j x y w v ts, xl_X11_entry.lookup pc = some (.new j, x, y, w, v, ts) → xm_site (xp_sv ad as sc) RX11 cX11_entry xp_TB pc j x y := by
  intro pc hp j x y w v ts h
  simp only [List.mem_cons, List.not_mem_nil, or_false] at hp
  subst hp
  have e : xl_X11_entry.lookup 50 = some (.new 267, 2, 3, -1, 0, []) := rfl
  rw [e] at h
  cases h
  exact ⟨"no such D(i, j)", "java/lang/RuntimeException", ["java/lang/Exception"], 547, 271, as 3, 13, ⟨#[0x2a, 0x2b, 0xb7, 0x00, 0x0d, 0xb1]⟩, rfl, rfl, by decide +kernel, by decide +kernel, by decide +kernel, by decide, ⟨by decide +kernel, by decide +kernel, by decide +kernel, by decide +kernel⟩, xp_in (j := 8) (i := 147) (by decide +kernel) (xg_classLink _ _ _), xp_in (j := 0) (i := 28) (by decide +kernel) (xg_initialized _), (fun w hw => (xp_at0 w hw).imp (fun h => h) (fun h => (xp_sv_nw ad as sc).symm ▸ h)), by decide +kernel, by decide +kernel, Or.inr ⟨by decide +kernel, by decide +kernel, by decide +kernel⟩⟩
set_option maxRecDepth 100000 in
theorem vs_X11_expected (ad as : Nat → Nat) (sc : Nat × Nat × (Nat → Int32)) : ∀ pc ∈ [42], ∀ j x y w v ts, xl_X11_expected.lookup pc = some (.new j, x, y, w, v, ts) → xm_site (xp_sv ad as sc) RX11 cX11_expected xp_TB pc j x y := by
  intro pc hp j x y w v ts h
  simp only [List.mem_cons, List.not_mem_nil, or_false] at hp
  subst hp
  have e : xl_X11_expected.lookup 42 = some (.new 267, 2, 4, -1, 0, []) := rfl
  rw [e] at h
  cases h
  exact ⟨"no such PAULI", "java/lang/RuntimeException", ["java/lang/Exception"], 285, 271, as 4, 13, ⟨#[0x2a, 0x2b, 0xb7, 0x00, 0x0d, 0xb1]⟩, rfl, rfl, by decide +kernel, by decide +kernel, by decide +kernel, by decide, ⟨by decide +kernel, by decide +kernel, by decide +kernel, by decide +kernel⟩, xp_in (j := 8) (i := 147) (by decide +kernel) (xg_classLink _ _ _), xp_in (j := 0) (i := 28) (by decide +kernel) (xg_initialized _), (fun w hw => (xp_at0 w hw).imp (fun h => h) (fun h => (xp_sv_nw ad as sc).symm ▸ h)), by decide +kernel, by decide +kernel, Or.inr ⟨by decide +kernel, by decide +kernel, by decide +kernel⟩⟩
set_option maxRecDepth 100000 in
theorem vs_X11_meaning (ad as : Nat → Nat) (sc : Nat × Nat × (Nat → Int32)) : ∀ pc ∈ [50, 73], ∀ j x y w v ts, xl_X11_meaning.lookup pc = some (.new j, x, y, w, v, ts) → xm_site (xp_sv ad as sc) RX11 cX11_meaning xp_TB pc j x y := by
  intro pc hp j x y w v ts h
  simp only [List.mem_cons, List.not_mem_nil, or_false] at hp
  rcases hp with rfl | rfl
  · have e : xl_X11_meaning.lookup 50 = some (.new 267, 2, 5, -1, 0, []) := rfl
    rw [e] at h
    cases h
    exact ⟨"no such MEANING", "java/lang/RuntimeException", ["java/lang/Exception"], 397, 271, as 5, 13, ⟨#[0x2a, 0x2b, 0xb7, 0x00, 0x0d, 0xb1]⟩, rfl, rfl, by decide +kernel, by decide +kernel, by decide +kernel, by decide, ⟨by decide +kernel, by decide +kernel, by decide +kernel, by decide +kernel⟩, xp_in (j := 8) (i := 147) (by decide +kernel) (xg_classLink _ _ _), xp_in (j := 0) (i := 28) (by decide +kernel) (xg_initialized _), (fun w hw => (xp_at0 w hw).imp (fun h => h) (fun h => (xp_sv_nw ad as sc).symm ▸ h)), by decide +kernel, by decide +kernel, Or.inr ⟨by decide +kernel, by decide +kernel, by decide +kernel⟩⟩
  · have e : xl_X11_meaning.lookup 73 = some (.new 120, 0, 6, -1, 0, []) := rfl
    rw [e] at h
    cases h
    exact ⟨"more than 12 SPIDERS", "java/lang/RuntimeException", ["java/lang/Exception"], 402, 124, as 6, 7, ⟨#[0x2a, 0x2b, 0xb7, 0x00, 0x07, 0xb1]⟩, rfl, rfl, by decide +kernel, by decide +kernel, by decide +kernel, by decide, ⟨by decide +kernel, by decide +kernel, by decide +kernel, by decide +kernel⟩, xp_in (j := 7) (i := 101) (by decide +kernel) (xg_classLink _ _ _), xp_in (j := 0) (i := 18) (by decide +kernel) (xg_initialized _), (fun w hw => (xp_at1 w hw).imp (fun h => h) (fun h => (xp_sv_nw ad as sc).symm ▸ h)), by decide +kernel, by decide +kernel, Or.inr ⟨by decide +kernel, by decide +kernel, by decide +kernel⟩⟩
set_option maxRecDepth 100000 in
theorem vs_X11_mixed (ad as : Nat → Nat) (sc : Nat × Nat × (Nat → Int32)) : ∀ pc ∈ [37, 66], ∀ j x y w v ts, xl_X11_mixed.lookup pc = some (.new j, x, y, w, v, ts) → xm_site (xp_sv ad as sc) RX11 cX11_mixed xp_TB pc j x y := by
  intro pc hp j x y w v ts h
  simp only [List.mem_cons, List.not_mem_nil, or_false] at hp
  rcases hp with rfl | rfl
  · have e : xl_X11_mixed.lookup 37 = some (.new 267, 2, 7, -1, 0, []) := rfl
    rw [e] at h
    cases h
    exact ⟨"no such matrix", "java/lang/RuntimeException", ["java/lang/Exception"], 293, 271, as 7, 13, ⟨#[0x2a, 0x2b, 0xb7, 0x00, 0x0d, 0xb1]⟩, rfl, rfl, by decide +kernel, by decide +kernel, by decide +kernel, by decide, ⟨by decide +kernel, by decide +kernel, by decide +kernel, by decide +kernel⟩, xp_in (j := 8) (i := 147) (by decide +kernel) (xg_classLink _ _ _), xp_in (j := 0) (i := 28) (by decide +kernel) (xg_initialized _), (fun w hw => (xp_at0 w hw).imp (fun h => h) (fun h => (xp_sv_nw ad as sc).symm ▸ h)), by decide +kernel, by decide +kernel, Or.inr ⟨by decide +kernel, by decide +kernel, by decide +kernel⟩⟩
  · have e : xl_X11_mixed.lookup 66 = some (.new 267, 2, 8, -1, 0, []) := rfl
    rw [e] at h
    cases h
    exact ⟨"no such row or column", "java/lang/RuntimeException", ["java/lang/Exception"], 295, 271, as 8, 13, ⟨#[0x2a, 0x2b, 0xb7, 0x00, 0x0d, 0xb1]⟩, rfl, rfl, by decide +kernel, by decide +kernel, by decide +kernel, by decide, ⟨by decide +kernel, by decide +kernel, by decide +kernel, by decide +kernel⟩, xp_in (j := 8) (i := 147) (by decide +kernel) (xg_classLink _ _ _), xp_in (j := 0) (i := 28) (by decide +kernel) (xg_initialized _), (fun w hw => (xp_at0 w hw).imp (fun h => h) (fun h => (xp_sv_nw ad as sc).symm ▸ h)), by decide +kernel, by decide +kernel, Or.inr ⟨by decide +kernel, by decide +kernel, by decide +kernel⟩⟩
set_option maxRecDepth 100000 in
theorem vs_X11_purity (ad as : Nat → Nat) (sc : Nat × Nat × (Nat → Int32)) : ∀ pc ∈ [19, 42], ∀ j x y w v ts, xl_X11_purity.lookup pc = some (.new j, x, y, w, v, ts) → xm_site (xp_sv ad as sc) RX11 cX11_purity xp_TB pc j x y := by
  intro pc hp j x y w v ts h
  simp only [List.mem_cons, List.not_mem_nil, or_false] at hp
  rcases hp with rfl | rfl
  · have e : xl_X11_purity.lookup 19 = some (.new 267, 2, 9, -1, 0, []) := rfl
    rw [e] at h
    cases h
    exact ⟨"no such PURITY", "java/lang/RuntimeException", ["java/lang/Exception"], 550, 271, as 9, 13, ⟨#[0x2a, 0x2b, 0xb7, 0x00, 0x0d, 0xb1]⟩, rfl, rfl, by decide +kernel, by decide +kernel, by decide +kernel, by decide, ⟨by decide +kernel, by decide +kernel, by decide +kernel, by decide +kernel⟩, xp_in (j := 8) (i := 147) (by decide +kernel) (xg_classLink _ _ _), xp_in (j := 0) (i := 28) (by decide +kernel) (xg_initialized _), (fun w hw => (xp_at0 w hw).imp (fun h => h) (fun h => (xp_sv_nw ad as sc).symm ▸ h)), by decide +kernel, by decide +kernel, Or.inr ⟨by decide +kernel, by decide +kernel, by decide +kernel⟩⟩
  · have e : xl_X11_purity.lookup 42 = some (.new 555, 3, 10, -1, 0, []) := rfl
    rw [e] at h
    cases h
    exact ⟨"a k above 50", "java/lang/RuntimeException", ["java/lang/Exception"], 557, 559, as 10, 7, ⟨#[0x2a, 0x2b, 0xb7, 0x00, 0x07, 0xb1]⟩, rfl, rfl, by decide +kernel, by decide +kernel, by decide +kernel, by decide, ⟨by decide +kernel, by decide +kernel, by decide +kernel, by decide +kernel⟩, xp_in (j := 9) (i := 90) (by decide +kernel) (xg_classLink _ _ _), xp_in (j := 0) (i := 30) (by decide +kernel) (xg_initialized _), (fun w hw => (xp_at3 w hw).imp (fun h => h) (fun h => (xp_sv_nw ad as sc).symm ▸ h)), by decide +kernel, by decide +kernel, Or.inr ⟨by decide +kernel, by decide +kernel, by decide +kernel⟩⟩
set_option maxRecDepth 100000 in
theorem vs_X11_run (ad as : Nat → Nat) (sc : Nat × Nat × (Nat → Int32)) : ∀ pc ∈ [12, 58], ∀ j x y w v ts, xl_X11_run.lookup pc = some (.new j, x, y, w, v, ts) → xm_site (xp_sv ad as sc) RX11 cX11_run xp_TB pc j x y := by
  intro pc hp j x y w v ts h
  simp only [List.mem_cons, List.not_mem_nil, or_false] at hp
  rcases hp with rfl | rfl
  · have e : xl_X11_run.lookup 12 = some (.new 134, 1, 11, -1, 0, []) := rfl
    rw [e] at h
    cases h
    exact ⟨"n is not 1 .. 400", "java/lang/RuntimeException", ["java/lang/Exception"], 238, 138, as 11, 7, ⟨#[0x2a, 0x2b, 0xb7, 0x00, 0x07, 0xb1]⟩, rfl, rfl, by decide +kernel, by decide +kernel, by decide +kernel, by decide, ⟨by decide +kernel, by decide +kernel, by decide +kernel, by decide +kernel⟩, xp_in (j := 8) (i := 96) (by decide +kernel) (xg_classLink _ _ _), xp_in (j := 0) (i := 26) (by decide +kernel) (xg_initialized _), (fun w hw => (xp_at2 w hw).imp (fun h => h) (fun h => (xp_sv_nw ad as sc).symm ▸ h)), by decide +kernel, by decide +kernel, Or.inl ⟨by decide +kernel, by decide +kernel, by decide +kernel⟩⟩
  · have e : xl_X11_run.lookup 58 = some (.new 120, 0, 12, -1, 0, []) := rfl
    rw [e] at h
    cases h
    exact ⟨"no OP is left", "java/lang/RuntimeException", ["java/lang/Exception"], 243, 124, as 12, 7, ⟨#[0x2a, 0x2b, 0xb7, 0x00, 0x07, 0xb1]⟩, rfl, rfl, by decide +kernel, by decide +kernel, by decide +kernel, by decide, ⟨by decide +kernel, by decide +kernel, by decide +kernel, by decide +kernel⟩, xp_in (j := 7) (i := 101) (by decide +kernel) (xg_classLink _ _ _), xp_in (j := 0) (i := 18) (by decide +kernel) (xg_initialized _), (fun w hw => (xp_at1 w hw).imp (fun h => h) (fun h => (xp_sv_nw ad as sc).symm ▸ h)), by decide +kernel, by decide +kernel, Or.inl ⟨by decide +kernel, by decide +kernel, by decide +kernel⟩⟩
set_option maxRecDepth 100000 in
theorem vs_X11_told (ad as : Nat → Nat) (sc : Nat × Nat × (Nat → Int32)) : ∀ pc ∈ [26], ∀ j x y w v ts, xl_X11_told.lookup pc = some (.new j, x, y, w, v, ts) → xm_site (xp_sv ad as sc) RX11 cX11_told xp_TB pc j x y := by
  intro pc hp j x y w v ts h
  simp only [List.mem_cons, List.not_mem_nil, or_false] at hp
  subst hp
  have e : xl_X11_told.lookup 26 = some (.new 267, 2, 13, -1, 0, []) := rfl
  rw [e] at h
  cases h
  exact ⟨"no such TERM", "java/lang/RuntimeException", ["java/lang/Exception"], 520, 271, as 13, 13, ⟨#[0x2a, 0x2b, 0xb7, 0x00, 0x0d, 0xb1]⟩, rfl, rfl, by decide +kernel, by decide +kernel, by decide +kernel, by decide, ⟨by decide +kernel, by decide +kernel, by decide +kernel, by decide +kernel⟩, xp_in (j := 8) (i := 147) (by decide +kernel) (xg_classLink _ _ _), xp_in (j := 0) (i := 28) (by decide +kernel) (xg_initialized _), (fun w hw => (xp_at0 w hw).imp (fun h => h) (fun h => (xp_sv_nw ad as sc).symm ▸ h)), by decide +kernel, by decide +kernel, Or.inr ⟨by decide +kernel, by decide +kernel, by decide +kernel⟩⟩
set_option maxRecDepth 100000 in
theorem vs_X11_weight (ad as : Nat → Nat) (sc : Nat × Nat × (Nat → Int32)) : ∀ pc ∈ [39], ∀ j x y w v ts, xl_X11_weight.lookup pc = some (.new j, x, y, w, v, ts) → xm_site (xp_sv ad as sc) RX11 cX11_weight xp_TB pc j x y := by
  intro pc hp j x y w v ts h
  simp only [List.mem_cons, List.not_mem_nil, or_false] at hp
  subst hp
  have e : xl_X11_weight.lookup 39 = some (.new 267, 2, 14, -1, 0, []) := rfl
  rw [e] at h
  cases h
  exact ⟨"no such WEIGHT", "java/lang/RuntimeException", ["java/lang/Exception"], 279, 271, as 14, 13, ⟨#[0x2a, 0x2b, 0xb7, 0x00, 0x0d, 0xb1]⟩, rfl, rfl, by decide +kernel, by decide +kernel, by decide +kernel, by decide, ⟨by decide +kernel, by decide +kernel, by decide +kernel, by decide +kernel⟩, xp_in (j := 8) (i := 147) (by decide +kernel) (xg_classLink _ _ _), xp_in (j := 0) (i := 28) (by decide +kernel) (xg_initialized _), (fun w hw => (xp_at0 w hw).imp (fun h => h) (fun h => (xp_sv_nw ad as sc).symm ▸ h)), by decide +kernel, by decide +kernel, Or.inr ⟨by decide +kernel, by decide +kernel, by decide +kernel⟩⟩
