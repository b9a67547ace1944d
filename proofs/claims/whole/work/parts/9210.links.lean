/-! the words of the tables by their places; what the classes' pool entries mean -/
theorem xg_fieldLink (a : String) (b : Nat) (c d e : String) : goodWord (Cond.fieldLink a b c d e) = true := by first | rfl | simp [goodWord, Cond.onTables, Cond.keeps, Cond.steady]
theorem xg_native (a : MethodName) : goodWord (Cond.native a) = true := by first | rfl | simp [goodWord, Cond.onTables, Cond.keeps, Cond.steady]
theorem xg_methodLink (a : String) (b : Nat) (c : MethodName) : goodWord (Cond.methodLink a b c) = true := by first | rfl | simp [goodWord, Cond.onTables, Cond.keeps, Cond.steady]
theorem xg_constant (a : String) (b : Nat) (c : Int32) : goodWord (Cond.constant a b c) = true := by first | rfl | simp [goodWord, Cond.onTables, Cond.keeps, Cond.steady]
theorem xg_constantLong (a : String) (b : Nat) (c : Int64) : goodWord (Cond.constantLong a b c) = true := by first | rfl | simp [goodWord, Cond.onTables, Cond.keeps, Cond.steady]
theorem xg_classLink (a : String) (b : Nat) (c : String) : goodWord (Cond.classLink a b c) = true := by first | rfl | simp [goodWord, Cond.onTables, Cond.keeps, Cond.steady]
theorem xg_instantiable (a : String) (b : Nat) : goodWord (Cond.instantiable a b) = true := by first | rfl | simp [goodWord, Cond.onTables, Cond.keeps, Cond.steady]
theorem xg_initialized (a : String) : goodWord (Cond.initialized a) = true := by first | rfl | simp [goodWord, Cond.onTables, Cond.keeps, Cond.steady]
theorem xg_instanceMethod (a : MethodName) : goodWord (Cond.instanceMethod a) = true := by first | rfl | simp [goodWord, Cond.onTables, Cond.keeps, Cond.steady]
theorem xg_static (a : MethodName) : goodWord (Cond.static a) = true := by first | rfl | simp [goodWord, Cond.onTables, Cond.keeps, Cond.steady]
theorem xg_selects (a : String) (b c : MethodName) : goodWord (Cond.selects a b c) = true := by first | rfl | simp [goodWord, Cond.onTables, Cond.keeps, Cond.steady]
theorem xg_code (a : MethodName) (b : ByteArray) (c : Nat) (d : Option FieldType) : goodWord (Cond.code a b c d) = true := by first | rfl | simp [goodWord, Cond.onTables, Cond.keeps, Cond.steady]
theorem xg_codeWith (a : MethodName) (b : ByteArray) (c : Nat) (d : Option FieldType) (f : List (Nat × Nat × Nat × Nat)) : goodWord (Cond.codeWith a b c d f) = true := by first | rfl | simp [goodWord, Cond.onTables, Cond.keeps, Cond.steady]
theorem xp_sub (j : Nat) : ∀ w ∈ xp_ch j, w ∈ lw_tbl := by
  intro w hw
  unfold lw_tbl
  match j, hw with
  | 0, hw => exact List.mem_append.mpr (Or.inr (List.mem_append.mpr (Or.inl hw)))
  | 1, hw => exact List.mem_append.mpr (Or.inr (List.mem_append.mpr (Or.inr (List.mem_append.mpr (Or.inl hw)))))
  | 2, hw => exact List.mem_append.mpr (Or.inr (List.mem_append.mpr (Or.inr (List.mem_append.mpr (Or.inr (List.mem_append.mpr (Or.inl hw)))))))
  | 3, hw => exact List.mem_append.mpr (Or.inr (List.mem_append.mpr (Or.inr (List.mem_append.mpr (Or.inr (List.mem_append.mpr (Or.inr (List.mem_append.mpr (Or.inl hw)))))))))
  | 4, hw => exact List.mem_append.mpr (Or.inr (List.mem_append.mpr (Or.inr (List.mem_append.mpr (Or.inr (List.mem_append.mpr (Or.inr (List.mem_append.mpr (Or.inr (List.mem_append.mpr (Or.inl hw)))))))))))
  | 5, hw => exact List.mem_append.mpr (Or.inr (List.mem_append.mpr (Or.inr (List.mem_append.mpr (Or.inr (List.mem_append.mpr (Or.inr (List.mem_append.mpr (Or.inr (List.mem_append.mpr (Or.inr (List.mem_append.mpr (Or.inl hw)))))))))))))
  | 6, hw => exact List.mem_append.mpr (Or.inr (List.mem_append.mpr (Or.inr (List.mem_append.mpr (Or.inr (List.mem_append.mpr (Or.inr (List.mem_append.mpr (Or.inr (List.mem_append.mpr (Or.inr (List.mem_append.mpr (Or.inr (List.mem_append.mpr (Or.inl hw)))))))))))))))
  | 7, hw => exact List.mem_append.mpr (Or.inr (List.mem_append.mpr (Or.inr (List.mem_append.mpr (Or.inr (List.mem_append.mpr (Or.inr (List.mem_append.mpr (Or.inr (List.mem_append.mpr (Or.inr (List.mem_append.mpr (Or.inr (List.mem_append.mpr (Or.inr (List.mem_append.mpr (Or.inl hw)))))))))))))))))
  | 8, hw => exact List.mem_append.mpr (Or.inr (List.mem_append.mpr (Or.inr (List.mem_append.mpr (Or.inr (List.mem_append.mpr (Or.inr (List.mem_append.mpr (Or.inr (List.mem_append.mpr (Or.inr (List.mem_append.mpr (Or.inr (List.mem_append.mpr (Or.inr (List.mem_append.mpr (Or.inr (List.mem_append.mpr (Or.inl hw)))))))))))))))))))
  | 9, hw => exact List.mem_append.mpr (Or.inr (List.mem_append.mpr (Or.inr (List.mem_append.mpr (Or.inr (List.mem_append.mpr (Or.inr (List.mem_append.mpr (Or.inr (List.mem_append.mpr (Or.inr (List.mem_append.mpr (Or.inr (List.mem_append.mpr (Or.inr (List.mem_append.mpr (Or.inr (List.mem_append.mpr (Or.inr (List.mem_append.mpr (Or.inl hw)))))))))))))))))))))
  | 10, hw => exact List.mem_append.mpr (Or.inr (List.mem_append.mpr (Or.inr (List.mem_append.mpr (Or.inr (List.mem_append.mpr (Or.inr (List.mem_append.mpr (Or.inr (List.mem_append.mpr (Or.inr (List.mem_append.mpr (Or.inr (List.mem_append.mpr (Or.inr (List.mem_append.mpr (Or.inr (List.mem_append.mpr (Or.inr (List.mem_append.mpr (Or.inr (List.mem_append.mpr (Or.inl hw)))))))))))))))))))))))
  | 11, hw => exact List.mem_append.mpr (Or.inr (List.mem_append.mpr (Or.inr (List.mem_append.mpr (Or.inr (List.mem_append.mpr (Or.inr (List.mem_append.mpr (Or.inr (List.mem_append.mpr (Or.inr (List.mem_append.mpr (Or.inr (List.mem_append.mpr (Or.inr (List.mem_append.mpr (Or.inr (List.mem_append.mpr (Or.inr (List.mem_append.mpr (Or.inr (List.mem_append.mpr (Or.inr (List.mem_append.mpr (Or.inl hw)))))))))))))))))))))))))
  | 12, hw => exact List.mem_append.mpr (Or.inr (List.mem_append.mpr (Or.inr (List.mem_append.mpr (Or.inr (List.mem_append.mpr (Or.inr (List.mem_append.mpr (Or.inr (List.mem_append.mpr (Or.inr (List.mem_append.mpr (Or.inr (List.mem_append.mpr (Or.inr (List.mem_append.mpr (Or.inr (List.mem_append.mpr (Or.inr (List.mem_append.mpr (Or.inr (List.mem_append.mpr (Or.inr (List.mem_append.mpr (Or.inr (List.mem_append.mpr (Or.inl hw)))))))))))))))))))))))))))
  | 13, hw => exact List.mem_append.mpr (Or.inr (List.mem_append.mpr (Or.inr (List.mem_append.mpr (Or.inr (List.mem_append.mpr (Or.inr (List.mem_append.mpr (Or.inr (List.mem_append.mpr (Or.inr (List.mem_append.mpr (Or.inr (List.mem_append.mpr (Or.inr (List.mem_append.mpr (Or.inr (List.mem_append.mpr (Or.inr (List.mem_append.mpr (Or.inr (List.mem_append.mpr (Or.inr (List.mem_append.mpr (Or.inr (List.mem_append.mpr (Or.inr (List.mem_append.mpr (Or.inl hw)))))))))))))))))))))))))))))
  | 14, hw => exact List.mem_append.mpr (Or.inr (List.mem_append.mpr (Or.inr (List.mem_append.mpr (Or.inr (List.mem_append.mpr (Or.inr (List.mem_append.mpr (Or.inr (List.mem_append.mpr (Or.inr (List.mem_append.mpr (Or.inr (List.mem_append.mpr (Or.inr (List.mem_append.mpr (Or.inr (List.mem_append.mpr (Or.inr (List.mem_append.mpr (Or.inr (List.mem_append.mpr (Or.inr (List.mem_append.mpr (Or.inr (List.mem_append.mpr (Or.inr (List.mem_append.mpr (Or.inr (List.mem_append.mpr (Or.inl hw)))))))))))))))))))))))))))))))
  | 15, hw => exact List.mem_append.mpr (Or.inr (List.mem_append.mpr (Or.inr (List.mem_append.mpr (Or.inr (List.mem_append.mpr (Or.inr (List.mem_append.mpr (Or.inr (List.mem_append.mpr (Or.inr (List.mem_append.mpr (Or.inr (List.mem_append.mpr (Or.inr (List.mem_append.mpr (Or.inr (List.mem_append.mpr (Or.inr (List.mem_append.mpr (Or.inr (List.mem_append.mpr (Or.inr (List.mem_append.mpr (Or.inr (List.mem_append.mpr (Or.inr (List.mem_append.mpr (Or.inr (List.mem_append.mpr (Or.inr (hw))))))))))))))))))))))))))))))))
  | _ + 16, hw => exact List.mem_append.mpr (Or.inl hw)
theorem xp_in {j i : Nat} {w : Cond} (h : (xp_ch j)[i]? = some w) (hg : goodWord w = true) : w ∈ xp_TB := List.mem_filter.mpr ⟨xp_sub j w (List.mem_of_getElem? h), hg⟩
theorem xp_inw {j i : Nat} {w : Cond} (h : (xp_ch j)[i]? = some w) (hg : xm_nwok w = true) : w ∈ xp_nw := List.mem_filter.mpr ⟨xp_sub j w (List.mem_of_getElem? h), hg⟩
theorem xp_sv_nw (ad as : Nat → Nat) (sc : Nat × Nat × (Nat → Int32)) : (xp_sv ad as sc).2.2.1 = xp_nw := by simp only [xp_sv]
def xp_svn : List (String × String × String) := (xp_sl (fun _ => 0)).map (fun q => (q.1, q.2.1, q.2.2.1))
theorem xp_svn_sv (ad : Nat → Nat) {k : Nat} {z : String × String × String} (h : xp_svn[k]? = some z) : ∃ v, (xp_sl ad)[k]? = some (z.1, z.2.1, z.2.2, v) := by
  have e : xp_svn = (xp_sl ad).map (fun q => (q.1, q.2.1, q.2.2.1)) := rfl
  rw [e, List.getElem?_map] at h
  cases hq : (xp_sl ad)[k]? with
  | none => rw [hq] at h; cases h
  | some q =>
    rw [hq] at h
    have h9 := Option.some.inj h
    subst h9
    exact ⟨q.2.2.2, rfl⟩
def xk_f (own : String) (e : Nat × Nat × Nat × Nat × Nat) : Bool := match vwCl[e.2.1]? with
  | some (_, T, N) => decide (e.2.2.1 < N) && decide ((xp_ch e.2.2.2.1)[e.2.2.2.2]? = some (Cond.fieldLink own e.1 (T e.2.2.1).1 (T e.2.2.1).2.1 (T e.2.2.1).2.2.1))
  | none => false
def xk_m (own : String) (e : Nat × Nat × Nat × Nat × Nat) : Bool := decide ((xp_ch e.2.2.2.1)[e.2.2.2.2]? = some (Cond.methodLink own e.1 (xp.1 e.2.1))) && decide ((parseMethodDescriptor (xp.1 e.2.1).desc).map (fun d => d.parameters.length) = some e.2.2.1)
def xk_i (own : String) (e : Nat × Int32 × Nat × Nat) : Bool := decide ((xp_ch e.2.2.1)[e.2.2.2]? = some (Cond.constant own e.1 e.2.1))
def xk_j (own : String) (e : Nat × Int64 × Nat × Nat) : Bool := decide ((xp_ch e.2.2.1)[e.2.2.2]? = some (Cond.constantLong own e.1 e.2.1))
/-- a class that is made: entry, class, and the places of classLink, instantiable, initialized -/
def xk_n (own : String) (e : Nat × Nat × Nat × Nat × Nat × Nat × Nat × Nat) : Bool := match vwCl[e.2.1]? with
  | some (C, _, N) => decide ((xp_ch e.2.2.1)[e.2.2.2.1]? = some (Cond.classLink own e.1 C)) && (decide ((xp_ch e.2.2.2.2.1)[e.2.2.2.2.2.1]? = some (Cond.instantiable C N)) && (decide ((xp_ch e.2.2.2.2.2.2.1)[e.2.2.2.2.2.2.2]? = some (Cond.initialized C)) && decide ((xp_dfl e.2.1).length = N)))
  | none => false
def xk_o (own : String) (e : Nat × Nat × Nat) : Bool := decide ((xp_ch e.2.1)[e.2.2]? = some (Cond.methodLink own e.1 Lib.objectInit))
/-- a static field that is read: entry, which, the place of its word, whether a nest mate's (and the host) -/
def xk_g (own : String) (e : Nat × Nat × Nat × Nat × Nat × String) : Bool := match xp_svn[e.2.1]? with
  | some z => decide ((xp_ch e.2.2.1)[e.2.2.2.1]? = some (if e.2.2.2.2.1 = 1 then Cond.fieldLinkNest own e.1 z.1 z.2.1 z.2.2 e.2.2.2.2.2 else Cond.fieldLink own e.1 z.1 z.2.1 z.2.2))
  | none => false
/-- a constructor that is called: entry, method, arguments, the place of its word, whether a nest mate's (and the host) -/
def xk_x (own : String) (e : Nat × Nat × Nat × Nat × Nat × Nat × String) : Bool := decide ((xp_ch e.2.2.2.1)[e.2.2.2.2.1]? = some (if e.2.2.2.2.2.1 = 1 then Cond.methodLinkNest own e.1 (xp.1 e.2.1) e.2.2.2.2.2.2 else Cond.methodLink own e.1 (xp.1 e.2.1))) && decide ((parseMethodDescriptor (xp.1 e.2.1).desc).map (fun d => d.parameters.length) = some e.2.2.1)
def xk_q (own : String) (e : Nat × Nat × Nat) : Bool := decide ((xp_ch e.2.1)[e.2.2]? = some (Cond.classLink own e.1 "[[I"))
def xk_w (own : String) (e : Nat × Int32 × Nat × Nat) : Bool := (decide (e.2.1 = -2) && decide ((xp_ch e.2.2.1)[e.2.2.2]? = some (Cond.methodLink own e.1 Lib.Math.max.name))) || ((decide (e.2.1 = -3) && decide ((xp_ch e.2.2.1)[e.2.2.2]? = some (Cond.methodLink own e.1 Lib.Math.min.name))) || (decide (e.2.1 = -4) && decide ((xp_ch e.2.2.1)[e.2.2.2]? = some (Cond.methodLink own e.1 Lib.MathLoose.max_long.x))))
def xk_a (own : String) (e : Nat × Nat × Nat) : Bool := decide ((xp_ch e.2.1)[e.2.2]? = some (Cond.methodLink own e.1 arraycopyName))
/-- a String constant: entry, number -/
def xp_lin : List (String × Nat) := (xp_li (fun _ => 0)).map (fun z => (z.1, z.2.1))
theorem xp_lin_sv (ad as : Nat → Nat) (sc : Nat × Nat × (Nat → Int32)) (k : Nat) : ((xp_sv ad as sc).2.2.2.2.2.2[k]?).map (fun z => (z.1, z.2.1)) = xp_lin[k]? := by
  rw [← List.getElem?_map]
  rfl
def xk_sl (own : String) (e : Nat × Nat) : Bool := decide (xp_lin[e.2]? = some (own, e.1))
/-- a field of a String: entry, which, the place of its word -/
def xk_sf (own : String) (e : Nat × Nat × Nat × Nat) : Bool := decide ((xp_ch e.2.2.1)[e.2.2.2]? = some (if e.2.1 = 0 then Cond.fieldLink own e.1 "java/lang/String" "value" "[B" else Cond.fieldLink own e.1 "java/lang/String" "coder" "B"))
/-- a method of a String: entry, method, arguments, the places of methodLink, instanceMethod, selects -/
def xk_sm (own : String) (e : Nat × Nat × Nat × Nat × Nat × Nat × Nat × Nat × Nat) : Bool := decide ((xp_ch e.2.2.2.1)[e.2.2.2.2.1]? = some (Cond.methodLink own e.1 (xp.1 e.2.1))) && (decide ((xp_ch e.2.2.2.2.2.1)[e.2.2.2.2.2.2.1]? = some (Cond.instanceMethod (xp.1 e.2.1))) && (decide ((xp_ch e.2.2.2.2.2.2.2.1)[e.2.2.2.2.2.2.2.2]? = some (Cond.selects (xp.1 e.2.1).cls (xp.1 e.2.1) (xp.1 e.2.1))) && (decide ((parseMethodDescriptor (xp.1 e.2.1).desc).map (fun d => d.parameters.length) = some e.2.2.1) && (decide ((xp.1 e.2.1).cls = "java/lang/String") && (xp.2.2.2.2.2.2.2 e.2.1).isEmpty))))
theorem xk_ok {own : String} {f m : List (Nat × Nat × Nat × Nat × Nat)} {ci : List (Nat × Int32 × Nat × Nat)} {cj : List (Nat × Int64 × Nat × Nat)} {n : List (Nat × Nat × Nat × Nat × Nat × Nat × Nat × Nat)} {o : List (Nat × Nat × Nat)} {g : List (Nat × Nat × Nat × Nat × Nat × String)} {x : List (Nat × Nat × Nat × Nat × Nat × Nat × String)} {a q2 : List (Nat × Nat × Nat)} {w2 : List (Nat × Int32 × Nat × Nat)} {sl : List (Nat × Nat)} {sf : List (Nat × Nat × Nat × Nat)} {sm : List (Nat × Nat × Nat × Nat × Nat × Nat × Nat × Nat × Nat)} {ad as : Nat → Nat} {sc : Nat × Nat × (Nat → Int32)}
    (hf : f.all (xk_f own) = true) (hm : m.all (xk_m own) = true) (hi : ci.all (xk_i own) = true) (hj : cj.all (xk_j own) = true) (hn : n.all (xk_n own) = true) (ho : o.all (xk_o own) = true) (hg : g.all (xk_g own) = true) (hx : x.all (xk_x own) = true) (ha : a.all (xk_a own) = true) (hq2 : q2.all (xk_q own) = true) (hw2 : w2.all (xk_w own) = true) (hsl : sl.all (xk_sl own) = true) (hsf : sf.all (xk_sf own) = true) (hsm : sm.all (xk_sm own) = true) (hoi : Cond.instanceMethod Lib.objectInit ∈ xp_TB) (hoc : Cond.code Lib.objectInit ⟨#[0xb1]⟩ 1 none ∈ xp_TB) (hac : Cond.native arraycopyName ∈ xp_TB ∧ Cond.static arraycopyName ∈ xp_TB ∧ Cond.initialized "java/lang/System" ∈ xp_TB) (hma : Cond.initialized "java/lang/Math" ∈ xp_TB ∧ (Cond.static Lib.Math.max.name ∈ xp_TB ∧ Cond.code Lib.Math.max.name Lib.Math.max.code 2 (some .int) ∈ xp_TB) ∧ (Cond.static Lib.Math.min.name ∈ xp_TB ∧ Cond.code Lib.Math.min.name Lib.Math.min.code 2 (some .int) ∈ xp_TB) ∧ (Cond.static Lib.MathLoose.max_long.x ∈ xp_TB ∧ Cond.code Lib.MathLoose.max_long.x Lib.MathLoose.max_long.code 4 (some .long) ∈ xp_TB)) :
    xm_kok xp xp_dfl (xp_sv ad as sc) own xp_TB vwCl (f.map (fun e => (e.1, e.2.1, e.2.2.1)), m.map (fun e => (e.1, e.2.1, e.2.2.1)), ci.map (fun e => (e.1, e.2.1)), cj.map (fun e => (e.1, e.2.1)), n.map (fun e => (e.1, e.2.1)), o.map (fun e => e.1), g.map (fun e => (e.1, e.2.1)), x.map (fun e => (e.1, e.2.1, e.2.2.1)), a.map (fun e => e.1), q2.map (fun e => e.1), w2.map (fun e => (e.1, e.2.1)), sl, sf.map (fun e => (e.1, e.2.1)), sm.map (fun e => (e.1, e.2.1, e.2.2.1))) := by
  refine ⟨?_, ?_, ?_, ?_, ?_, ?_, ?_, ?_, ?_, ?_, rfl, ?_, ?_, ?_, ?_⟩
  · intro q hq
    obtain ⟨e, he, rfl⟩ := List.mem_map.mp hq
    have h := List.all_eq_true.mp hf e he
    unfold xk_f at h
    cases hc : vwCl[e.2.1]? with
    | none => rw [hc] at h; cases h
    | some z =>
      rw [hc] at h
      simp only [Bool.and_eq_true, decide_eq_true_eq] at h
      exact ⟨h.1, xp_in h.2 (xg_fieldLink _ _ _ _ _)⟩
  · intro q hq
    obtain ⟨e, he, rfl⟩ := List.mem_map.mp hq
    have h := List.all_eq_true.mp hm e he
    simp only [xk_m, Bool.and_eq_true, decide_eq_true_eq] at h
    exact ⟨xp_in h.1 (xg_methodLink _ _ _), h.2⟩
  · intro q hq
    obtain ⟨e, he, rfl⟩ := List.mem_map.mp hq
    have h := List.all_eq_true.mp hi e he
    simp only [xk_i, decide_eq_true_eq] at h
    exact xp_in h (xg_constant _ _ _)
  · intro q hq
    obtain ⟨e, he, rfl⟩ := List.mem_map.mp hq
    have h := List.all_eq_true.mp hj e he
    simp only [xk_j, decide_eq_true_eq] at h
    exact xp_in h (xg_constantLong _ _ _)
  · intro q hq
    obtain ⟨e, he, rfl⟩ := List.mem_map.mp hq
    have h := List.all_eq_true.mp hn e he
    unfold xk_n at h
    dsimp only
    cases hc : vwCl[e.2.1]? with
    | none => rw [hc] at h; cases h
    | some z =>
      rw [hc] at h
      simp only [Bool.and_eq_true, decide_eq_true_eq] at h
      exact ⟨xp_in h.1 (xg_classLink _ _ _), xp_in h.2.1 (xg_instantiable _ _), xp_in h.2.2.1 (xg_initialized _), h.2.2.2⟩
  · intro q hq
    obtain ⟨e, he, rfl⟩ := List.mem_map.mp hq
    have h := List.all_eq_true.mp ho e he
    simp only [xk_o, decide_eq_true_eq] at h
    exact ⟨xp_in h (xg_methodLink _ _ _), hoi, hoc⟩
  · intro q hq
    obtain ⟨e, he, rfl⟩ := List.mem_map.mp hq
    have h := List.all_eq_true.mp hg e he
    unfold xk_g at h
    dsimp only
    cases hz : xp_svn[e.2.1]? with
    | none => rw [hz] at h; cases h
    | some z =>
      rw [hz] at h
      obtain ⟨w, hw⟩ := xp_svn_sv ad hz
      rw [show (xp_sv ad as sc).1[e.2.1]? = (xp_sl ad)[e.2.1]? from rfl, hw]
      simp only [decide_eq_true_eq] at h
      by_cases hn : e.2.2.2.2.1 = 1
      · rw [if_pos hn] at h
        have hw9 : Cond.fieldLinkNest own e.1 z.1 z.2.1 z.2.2 e.2.2.2.2.2 ∈ xp_nw := xp_inw h rfl
        refine Or.inr ⟨e.2.2.2.2.2, ?_⟩
        rw [xp_sv_nw]
        exact hw9
      · rw [if_neg hn] at h
        exact Or.inl (xp_in h (xg_fieldLink _ _ _ _ _))
  · intro q hq
    obtain ⟨e, he, rfl⟩ := List.mem_map.mp hq
    have h := List.all_eq_true.mp hx e he
    simp only [xk_x, Bool.and_eq_true, decide_eq_true_eq] at h
    refine ⟨?_, h.2⟩
    have h1 := h.1
    by_cases hn : e.2.2.2.2.2.1 = 1
    · rw [if_pos hn] at h1
      have hw : Cond.methodLinkNest own e.1 (xp.1 e.2.1) e.2.2.2.2.2.2 ∈ xp_nw := xp_inw h1 rfl
      refine Or.inr ⟨e.2.2.2.2.2.2, ?_⟩
      rw [xp_sv_nw]
      exact hw
    · rw [if_neg hn] at h1
      exact Or.inl (xp_in h1 (xg_methodLink _ _ _))
  · intro q hq
    obtain ⟨e, he, rfl⟩ := List.mem_map.mp hq
    have h := List.all_eq_true.mp hw2 e he
    simp only [xk_w, Bool.or_eq_true, Bool.and_eq_true, decide_eq_true_eq] at h
    obtain ⟨m0, ⟨m1, m2⟩, ⟨m3, m4⟩, m5, m6⟩ := hma
    rcases h with ⟨h1, h2⟩ | ⟨h1, h2⟩ | ⟨h1, h2⟩
    · exact ⟨m0, Or.inl ⟨h1, xp_in h2 (xg_methodLink _ _ _), m1, m2⟩⟩
    · exact ⟨m0, Or.inr (Or.inl ⟨h1, xp_in h2 (xg_methodLink _ _ _), m3, m4⟩)⟩
    · exact ⟨m0, Or.inr (Or.inr ⟨h1, xp_in h2 (xg_methodLink _ _ _), m5, m6⟩)⟩
  · intro q hq
    obtain ⟨e, he, rfl⟩ := List.mem_map.mp hq
    have h := List.all_eq_true.mp hq2 e he
    simp only [xk_q, decide_eq_true_eq] at h
    exact ⟨rfl, xp_in h (xg_classLink _ _ _)⟩
  · intro q hq
    obtain ⟨e, he, rfl⟩ := List.mem_map.mp hq
    have h := List.all_eq_true.mp ha e he
    simp only [xk_a, decide_eq_true_eq] at h
    exact ⟨xp_in h (xg_methodLink _ _ _), hac⟩
  · intro q hq
    have h := List.all_eq_true.mp hsl q hq
    simp only [xk_sl, decide_eq_true_eq] at h
    rw [xp_lin_sv, h]
  · intro q hq
    obtain ⟨e, he, rfl⟩ := List.mem_map.mp hq
    have h := List.all_eq_true.mp hsf e he
    simp only [xk_sf, decide_eq_true_eq] at h
    dsimp only
    by_cases hn : e.2.1 = 0
    · rw [if_pos hn] at h ⊢
      exact xp_in h (xg_fieldLink _ _ _ _ _)
    · rw [if_neg hn] at h ⊢
      exact xp_in h (xg_fieldLink _ _ _ _ _)
  · intro q hq
    obtain ⟨e, he, rfl⟩ := List.mem_map.mp hq
    have h := List.all_eq_true.mp hsm e he
    simp only [xk_sm, Bool.and_eq_true, decide_eq_true_eq] at h
    exact ⟨xp_in h.1 (xg_methodLink _ _ _), xp_in h.2.1 (xg_instanceMethod _), xp_in h.2.2.1 (xg_selects _ _ _), h.2.2.2.1, h.2.2.2.2.1, List.isEmpty_iff.mp h.2.2.2.2.2⟩
def xt_s (e : Nat × Nat × Nat) : Bool := decide ((xp_ch e.2.1)[e.2.2]? = some (Cond.static (xp.1 e.1)))
def xt_v (e : Nat × Nat × Nat × Nat × Nat) : Bool := decide ((xp_ch e.2.1)[e.2.2.1]? = some (Cond.instanceMethod (xp.1 e.1))) && (decide ((xp_ch e.2.2.2.1)[e.2.2.2.2]? = some (Cond.selects (xp.1 e.1).cls (xp.1 e.1) (xp.1 e.1))) && (decide ((vwCl[xp.2.2.2.2.2.2.1 e.1]?).map (fun q => q.1) = some (xp.1 e.1).cls) && (xp.2.2.2.2.2.2.2 e.1).isEmpty))
def xt_i (e : Nat × Nat × Nat) : Bool := decide ((xp_ch e.2.1)[e.2.2]? = some (Cond.instanceMethod (xp.1 e.1))) && (decide ((xp.1 e.1).name = "<init>") && (decide (xp.2.2.2.1 e.1 = none) && (xp.2.2.2.2.2.2.2 e.1).isEmpty))
theorem xt_ok {s i : List (Nat × Nat × Nat)} {v : List (Nat × Nat × Nat × Nat × Nat)} (hs : s.all xt_s = true) (hv : v.all xt_v = true) (hi : i.all xt_i = true) (ha : ∀ a : ArrayType, (a = .int ∨ a = .long ∨ a = .boolean ∨ a = .byte ∨ a = .char) → Cond.arrayClass (newarray.typeOf a) ∈ xp_TB) :
    xm_tok xp xp_TB vwCl (s.map (fun e => e.1), v.map (fun e => e.1), i.map (fun e => e.1)) := by
  refine ⟨?_, ?_, ?_, ha⟩
  · intro x hx
    obtain ⟨e, he, rfl⟩ := List.mem_map.mp hx
    have h := List.all_eq_true.mp hs e he
    simp only [xt_s, decide_eq_true_eq] at h
    exact xp_in h (xg_static _)
  · intro x hx
    obtain ⟨e, he, rfl⟩ := List.mem_map.mp hx
    have h := List.all_eq_true.mp hv e he
    simp only [xt_v, Bool.and_eq_true, decide_eq_true_eq] at h
    exact ⟨xp_in h.1 (xg_instanceMethod _), xp_in h.2.1 (xg_selects _ _ _), h.2.2.1, List.isEmpty_iff.mp h.2.2.2⟩
  · intro x hx
    obtain ⟨e, he, rfl⟩ := List.mem_map.mp hx
    have h := List.all_eq_true.mp hi e he
    simp only [xt_i, Bool.and_eq_true, decide_eq_true_eq] at h
    exact ⟨h.2.1, h.2.2.1, List.isEmpty_iff.mp h.2.2.2, xp_in h.1 (xg_instanceMethod _)⟩
