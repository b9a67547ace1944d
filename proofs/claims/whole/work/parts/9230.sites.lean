/-! where exceptions are thrown, and every row of the program -/
theorem xp_ats {own : String} {ic : Nat} {X : String} {ix : Nat} {rx : ByteArray} {Y : String} {names : List String} (h : ((xm_tx own ic X ix rx Y names).filter vx_no).all (fun w => decide (w ∈ lw_tbl) && (goodWord w || xm_nwok w)) = true) : ∀ w ∈ (xm_tx own ic X ix rx Y names).filter vx_no, w ∈ xp_TB ∨ w ∈ xp_nw := by
  intro w hw
  have h1 := List.all_eq_true.mp h w hw
  simp only [Bool.and_eq_true, Bool.or_eq_true, decide_eq_true_eq] at h1
  rcases h1.2 with g | g
  · exact Or.inl (List.mem_filter.mpr ⟨h1.1, g⟩)
  · exact Or.inr (List.mem_filter.mpr ⟨h1.1, g⟩)
def xp_cw (e : xm_R) : Cond := match e.2.2.2.2.2.2.2 with
  | [] => Cond.code e.1 e.2.1 e.2.2.1 e.2.2.2.1
  | z :: r => Cond.codeWith e.1 e.2.1 e.2.2.1 e.2.2.2.1 ((z :: r).map (fun e => (e.1, e.2.1, e.2.2.1, e.2.2.2.1)))
/-- a row of the program is right -/
def xp_good (ad as : Nat → Nat) (sc : Nat × Nat × (Nat → Int32)) (e : xm_R) : Prop :=
  xp_cw e ∈ xp_TB ∧ Cond.initialized e.1.cls ∈ xp_TB ∧ plainName e.1.cls = true ∧ (e.1.cls ≠ "java/lang/invoke/MethodHandle" ∧ e.1.cls ≠ "java/lang/invoke/VarHandle") ∧ e.2.2.1 ≤ 45 ∧ (∀ z ∈ e.2.2.2.2.2.2.2, z.2.2.2.1 ≠ 0 ∧ Cond.classLink e.1.cls z.2.2.2.1 z.2.2.2.2 ∈ xp_TB ∧ Cond.castable z.2.2.2.2 z.2.2.2.2 ∈ (xp_sv ad as sc).2.2.1) ∧ (e.2.2.2.2.2.1 = true → e.1.name = "<init>") ∧
  ∀ pc q, e.2.2.2.2.1.lookup pc = some q → xm_ok2 xp xp_dfl (xp_sv ad as sc) e.1.cls e.2.1 xp_TB vwCl e.2.2.2.2.2.1 pc q
theorem xp_at0 : ∀ w ∈ (xm_tx RX11 271 (xm_ex 2) 13 ⟨#[0x2a, 0x2b, 0xb7, 0x00, 0x0d, 0xb1]⟩ "java/lang/RuntimeException" ["java/lang/Exception"]).filter vx_no, w ∈ xp_TB ∨ w ∈ xp_nw := xp_ats (by decide +kernel)
theorem xp_at1 : ∀ w ∈ (xm_tx RX11 124 (xm_ex 0) 7 ⟨#[0x2a, 0x2b, 0xb7, 0x00, 0x07, 0xb1]⟩ "java/lang/RuntimeException" ["java/lang/Exception"]).filter vx_no, w ∈ xp_TB ∨ w ∈ xp_nw := xp_ats (by decide +kernel)
theorem xp_at2 : ∀ w ∈ (xm_tx RX11 138 (xm_ex 1) 7 ⟨#[0x2a, 0x2b, 0xb7, 0x00, 0x07, 0xb1]⟩ "java/lang/RuntimeException" ["java/lang/Exception"]).filter vx_no, w ∈ xp_TB ∨ w ∈ xp_nw := xp_ats (by decide +kernel)
theorem xp_at3 : ∀ w ∈ (xm_tx RX11 559 (xm_ex 3) 7 ⟨#[0x2a, 0x2b, 0xb7, 0x00, 0x07, 0xb1]⟩ "java/lang/RuntimeException" ["java/lang/Exception"]).filter vx_no, w ∈ xp_TB ∨ w ∈ xp_nw := xp_ats (by decide +kernel)
