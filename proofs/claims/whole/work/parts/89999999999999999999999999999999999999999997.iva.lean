/-! THE INVARIANT: what a fact sees of the memory -/
/-- the memory, as far as it is seen: cells SC, places SF, rows of longs SL -/
def rsM (SC : List Nat) (SF : List (Nat × Nat)) (SL : List Nat) (M : mm_M) : mm_M := (fun k y => bif SC.contains k || SF.contains (k, y) then M.1 k y else 0, fun k y => bif SL.contains k then M.2 k y else 0)
/-- but cells KI, places KO, rows of longs KL all stays -/
def ivF (KI : List Nat) (KO : List (Nat × Nat)) (KL : List Nat) (M N : mm_M) : Prop := (∀ k y, KI.contains k = false → KO.contains (k, y) = false → N.1 k y = M.1 k y) ∧ ∀ k, KL.contains k = false → N.2 k = M.2 k
/-- nothing that is seen may change -/
def ckM (SC : List Nat) (SF : List (Nat × Nat)) (SL : List Nat) (KI : List Nat) (KO : List (Nat × Nat)) (KL : List Nat) : Bool := SC.all (fun k => !KI.contains k && KO.all (fun p => !(p.1 == k))) && SF.all (fun q => !KI.contains q.1 && !KO.contains q) && SL.all (fun k => !KL.contains k)
section IVA
variable {SC : List Nat} {SF : List (Nat × Nat)} {SL : List Nat} {KI : List Nat} {KO : List (Nat × Nat)} {KL : List Nat} {M N K : mm_M}
theorem ivF_r : ivF KI KO KL M M := ⟨fun _ _ _ _ => rfl, fun _ _ => rfl⟩
theorem ivF_t (h : ivF KI KO KL M N) (g : ivF KI KO KL N K) : ivF KI KO KL M K := ⟨fun k y a b => (g.1 k y a b).trans (h.1 k y a b), fun k a => (g.2 k a).trans (h.2 k a)⟩
theorem ivF_i {k : Nat} {f : Nat → Int32} (h : KI.contains k = true) : ivF KI KO KL M (mm_i M k f) := ⟨fun q y a _ => by rw [mm_ne _ _ _ _ (fun e => by rw [e, h] at a; exact absurd a (by decide))], fun _ _ => rfl⟩
theorem ivF_u {k y : Nat} {v : Int32} (h : KO.contains (k, y) = true) : ivF KI KO KL M (mm_i M k (upd (M.1 k) y v)) := by
  refine ⟨fun q z _ b => ?_, fun _ _ => rfl⟩
  by_cases e : q = k
  · subst e
    rw [mm_i1, up_ne (fun e => by rw [e, h] at b; exact absurd b (by decide))]
  · rw [mm_ne _ _ _ _ e]
theorem ivF_l {k : Nat} {f : Nat → Int64} (h : KL.contains k = true) : ivF KI KO KL M (mm_l M k f) := ⟨fun _ _ _ _ => rfl, fun q a => mm_lne _ _ _ _ (fun e => by rw [e, h] at a; exact absurd a (by decide))⟩
theorem ckM_e (h : ckM SC SF SL KI KO KL = true) (g : ivF KI KO KL M N) : rsM SC SF SL N = rsM SC SF SL M := by
  unfold ckM at h
  rw [Bool.and_eq_true, Bool.and_eq_true, List.all_eq_true, List.all_eq_true, List.all_eq_true] at h
  obtain ⟨⟨h1, h2⟩, h3⟩ := h
  refine Prod.ext (funext fun k => funext fun y => ?_) (funext fun k => funext fun y => ?_)
  · show (bif SC.contains k || SF.contains (k, y) then N.1 k y else 0) = (bif SC.contains k || SF.contains (k, y) then M.1 k y else 0)
    cases q : (SC.contains k || SF.contains (k, y)) with
    | false => rfl
    | true =>
      show N.1 k y = M.1 k y
      rcases (Bool.or_eq_true _ _).mp q with z | z
      · have := h1 k (List.contains_iff_mem.mp z)
        obtain ⟨a, b⟩ := (Bool.and_eq_true _ _).mp this
        refine g.1 k y (by simpa using a) ?_
        cases w : KO.contains (k, y) with
        | false => rfl
        | true =>
          have := (List.all_eq_true.mp b) (k, y) (List.contains_iff_mem.mp w)
          simp at this
      · have := h2 (k, y) (List.contains_iff_mem.mp z)
        obtain ⟨a, b⟩ := (Bool.and_eq_true _ _).mp this
        exact g.1 k y (by simpa using a) (by simpa using b)
  · show (bif SL.contains k then N.2 k y else 0) = (bif SL.contains k then M.2 k y else 0)
    cases q : SL.contains k with
    | false => rfl
    | true =>
      show N.2 k y = M.2 k y
      have := h3 k (List.contains_iff_mem.mp q)
      rw [g.2 k (by simpa using this)]
end IVA
