/-! what is asked of a pair of methods, class and reference; the answer, the memory behind both -/
section LD
variable (ac : Nat → ClassId) (lo : Nat) (ad as : Nat → Nat) (b L : Nat) (xs : Nat → Int32) (hp : mm_M → Nat → xm_H) (I J : mm_M → Prop)
/-- both return the same -/
def la_A (f1 f2 : Nat) (vs : List Value) : Prop := ∀ M z, I M → ∃ v M1 M2, xm_M xp ac lo xp_fty xp_dfl (xp_sv ad as (b, L, xs)) 1000 f1 (.ref (lo + 0) :: vs) (hp M z) 0 0 (xq1 v (hp M1 z)) ∧ xm_M xp ac lo xp_fty xp_dfl (xp_sv ad as (b, L, xs)) 1000 f2 (.ref (lo + 108) :: vs) (hp M1 z) 0 0 (xq1 v (hp M2 z)) ∧ J M2
/-- both return an int (boolean), the same -/
def la_I (f1 f2 : Nat) (vs : List Value) : Prop := ∀ M z, I M → ∃ (v : Int32) (M1 M2 : mm_M), xm_M xp ac lo xp_fty xp_dfl (xp_sv ad as (b, L, xs)) 1000 f1 (.ref (lo + 0) :: vs) (hp M z) 0 0 (xq1 (.int v) (hp M1 z)) ∧ xm_M xp ac lo xp_fty xp_dfl (xp_sv ad as (b, L, xs)) 1000 f2 (.ref (lo + 108) :: vs) (hp M1 z) 0 0 (xq1 (.int v) (hp M2 z)) ∧ J M2
/-- both return a long, the same -/
def la_J (f1 f2 : Nat) (vs : List Value) : Prop := ∀ M z, I M → ∃ (v : Int64) (M1 M2 : mm_M), xm_M xp ac lo xp_fty xp_dfl (xp_sv ad as (b, L, xs)) 1000 f1 (.ref (lo + 0) :: vs) (hp M z) 0 0 (xq1 (.long v) (hp M1 z)) ∧ xm_M xp ac lo xp_fty xp_dfl (xp_sv ad as (b, L, xs)) 1000 f2 (.ref (lo + 108) :: vs) (hp M1 z) 0 0 (xq1 (.long v) (hp M2 z)) ∧ J M2
/-- both return nothing -/
def la_V (f1 f2 : Nat) (vs : List Value) : Prop := ∀ M z, I M → ∃ (M1 M2 : mm_M), xm_M xp ac lo xp_fty xp_dfl (xp_sv ad as (b, L, xs)) 1000 f1 (.ref (lo + 0) :: vs) (hp M z) 0 0 (xq0 (hp M1 z)) ∧ xm_M xp ac lo xp_fty xp_dfl (xp_sv ad as (b, L, xs)) 1000 f2 (.ref (lo + 108) :: vs) (hp M1 z) 0 0 (xq0 (hp M2 z)) ∧ J M2
/-- an end with the int k, at any size -/
def la_q (k : Int32) (M : mm_M) : xm_Q := fun r h => r = .inl (some (.int k)) ∧ ∃ z, h = hp M z
/-- the law's own method that catches, and the reference: what was thrown is the same, and else the answer (an int there) -/
def la_TI (f1 f2 : Nat) (vs : List Value) : Prop := ∀ M z, I M → ∃ (k w : Int32) (M1 M2 : mm_M), xm_M xp ac lo xp_fty xp_dfl (xp_sv ad as (b, L, xs)) 1000 f1 (.ref (lo + 0) :: (vs ++ [.ref (lo + 202)])) (hp M z) 1 6 (la_q hp k M1) ∧ (∀ z, xm_M xp ac lo xp_fty xp_dfl (xp_sv ad as (b, L, xs)) 1000 f2 (.ref (lo + 108) :: vs) (hp M1 z) 0 0 (xq1 (.int w) (hp M2 z))) ∧ M2.1 108 0 = k ∧ (k = 0 → M2.2 202 0 = w.toInt64) ∧ J M2
/-- the same, a long there -/
def la_TJ (f1 f2 : Nat) (vs : List Value) : Prop := ∀ M z, I M → ∃ (k : Int32) (w : Int64) (M1 M2 : mm_M), xm_M xp ac lo xp_fty xp_dfl (xp_sv ad as (b, L, xs)) 1000 f1 (.ref (lo + 0) :: (vs ++ [.ref (lo + 202)])) (hp M z) 1 6 (la_q hp k M1) ∧ (∀ z, xm_M xp ac lo xp_fty xp_dfl (xp_sv ad as (b, L, xs)) 1000 f2 (.ref (lo + 108) :: vs) (hp M1 z) 0 0 (xq1 (.long w) (hp M2 z))) ∧ M2.1 108 0 = k ∧ (k = 0 → M2.2 202 0 = w) ∧ J M2
end LD
theorem la_call {hp : mm_M → Nat → xm_H} {cs : xm_S} {x : Nat} {as r : List Value} {h : xm_H} {M1 : mm_M} {k : Int32} {rc rs : Nat} {K : List Value → xm_H → Nat → Nat → Prop} {KX : String → xm_H → Nat → Nat → Prop} (hs : (r.map fun v => v.category).sum ≤ 8) (h1 : 1 ≤ rc) (h2 : 6 ≤ rs) (hc : cs x as h 1 6 (la_q hp k M1)) (kk : ∀ z, K (.int k :: r) (hp M1 z) (rc - 1) (rs - 6)) : xm_call cs x as r h rc rs K KX :=
  ⟨hs, 1, 6, la_q hp k M1, h1, h2, hc, fun w h9 q => by
    obtain ⟨q1, z, q2⟩ := q
    cases q1
    subst q2
    exact kk z, fun E h9 q => by cases q.1⟩
set_option maxRecDepth 100000 in
theorem la_thrown {ac : Nat → ClassId} {lo : Nat} {ad as : Nat → Nat} {b L : Nat} {xs : Nat → Int32} {hp : mm_M → Nat → xm_H} (H : mm_L ac lo hp) (d : Nat) (M : mm_M) (z : Nat) : xm_M xp ac lo xp_fty xp_dfl (xp_sv ad as (b, L, xs)) (d + 1) nm_X12_thrown [.ref (lo + 108)] (hp M z) 0 0 (xq1 (.int (M.1 108 0)) (hp M z)) := by
  refine ⟨rfl, Nat.le_of_ble_eq_true rfl, Nat.le_of_ble_eq_true rfl, fun X hX => xm_run hX 20 _ _ _ _ _ _ ?_⟩
  conv => whnf
  rw [H.1]
  conv => whnf
  refine ⟨rfl, ?_⟩
  conv => whnf
  exact ⟨⟨.int, rfl, rfl⟩, rfl, rfl⟩
theorem la_cmp (a : Int64) : lg_cmp a a = 0 := by simp [lg_cmp]
