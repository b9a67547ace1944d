/-! ROUTE: arrangements and their ranks -/
theorem prm_m : ∀ (W : Nat) (p : List Nat), arr W p → p ∈ prm W
  | 0, p, h => by
    have : p = [] := List.length_eq_zero_iff.mp h.1
    rw [this]
    exact List.mem_singleton.mpr rfl
  | w + 1, p, h => by
    obtain ⟨h1, h2, h3⟩ := h
    have hne : p ≠ [] := fun z => by
      rw [z] at h1
      exact absurd h1 (by show ¬ 0 = w + 1; omega)
    have e := List.dropLast_concat_getLast hne
    generalize p.dropLast = q at e
    generalize p.getLast hne = x at e
    subst e
    rw [List.length_append] at h1
    have h1 : q.length + 1 = w + 1 := h1
    have nd := List.nodup_append.mp h3
    have hx : x ∉ q := fun z => nd.2.2 x z x (List.mem_singleton.mpr rfl) rfl
    have ih := prm_m w q ⟨by omega, fun y hy => h2 y (List.mem_append.mpr (Or.inl hy)), nd.1⟩
    refine List.mem_flatMap.mpr ⟨q, ih, List.mem_map.mpr ⟨x, List.mem_filter.mpr ⟨List.mem_range.mpr (h2 x (List.mem_append.mpr (Or.inr (List.mem_singleton.mpr rfl)))), ?_⟩, rfl⟩⟩
    rw [Bool.not_eq_true', ← Bool.not_eq_true, List.contains_iff_mem]
    exact hx
theorem rkP_u {W : Nat} {p : List Nat} (hW : W ≤ 6) (h : arr W p) : rkP p < cnW W ∧ unP W (rkP p) = p := by
  have := List.all_eq_true.mp (prm_ok W (by omega)) p (prm_m W p h)
  obtain ⟨a, b⟩ := (Bool.and_eq_true _ _).mp this
  exact ⟨of_decide_eq_true a, of_decide_eq_true b⟩
theorem cnW_7 : ∀ W, W < 7 → cnW W ≤ 720 ∧ 0 < cnW W := by decide
theorem unP_a {W r : Nat} (hW : W ≤ 6) (h : r < cnW W) : arr W (unP W r) ∧ rkP (unP W r) = r := by
  have := List.all_eq_true.mp (unP_ok W (by omega)) r (List.mem_range.mpr h)
  obtain ⟨a, b⟩ := (Bool.and_eq_true _ _).mp this
  unfold arB at a
  obtain ⟨a1, a3⟩ := (Bool.and_eq_true _ _).mp a
  obtain ⟨a1, a2⟩ := (Bool.and_eq_true _ _).mp a1
  exact ⟨⟨of_decide_eq_true a1, fun x hx => of_decide_eq_true (List.all_eq_true.mp a2 x hx), of_decide_eq_true a3⟩, of_decide_eq_true b⟩
theorem rkP_i {W : Nat} {p q : List Nat} (hW : W ≤ 6) (h : arr W p) (g : arr W q) (e : rkP p = rkP q) : p = q := by
  rw [← (rkP_u hW h).2, ← (rkP_u hW g).2, e]
theorem arr_0 {W : Nat} (hW : W ≤ 6) : arr W (List.range W) := ⟨List.length_range, fun x hx => by have := List.mem_range.mp hx; omega, List.nodup_range⟩
theorem swx_n {e x y : Nat} (h1 : e < 36) (h2 : e / 6 < e % 6) (hx : x < 6) (hy : y < 6) (h : x ≠ y) : swx e x ≠ swx e y := fun q => h (by rw [← swx_i e h1 h2 x hx, ← swx_i e h1 h2 y hy, q])
theorem arr_s {W e : Nat} {p : List Nat} (h1 : e < 36) (h2 : e / 6 < e % 6) (h : arr W p) : arr W (p.map (swx e)) := by
  refine ⟨by rw [List.length_map]; exact h.1, fun x hx => ?_, ?_⟩
  · obtain ⟨y, hy, rfl⟩ := List.mem_map.mp hx
    exact swx_l e h1 y (h.2.1 y hy)
  · unfold List.Nodup
    rw [List.pairwise_map]
    exact List.Pairwise.imp_of_mem (fun {a b} ha hb hab => swx_n h1 h2 (h.2.1 a ha) (h.2.1 b hb) hab) h.2.2
/-- packed in sixes -/
def pk6 : List Nat → Nat
  | [] => 0
  | x :: p => x + 6 * pk6 p
theorem pk6_l : ∀ (p : List Nat), (∀ x ∈ p, x < 6) → pk6 p < 6 ^ p.length
  | [], _ => Nat.one_pos
  | x :: p, h => by
    have := pk6_l p (fun y hy => h y (List.mem_cons_of_mem _ hy))
    have hx := h x List.mem_cons_self
    show x + 6 * pk6 p < 6 ^ (p.length + 1)
    rw [Nat.pow_succ]
    omega
theorem pk6_i : ∀ (p q : List Nat), p.length = q.length → (∀ x ∈ p, x < 6) → (∀ x ∈ q, x < 6) → pk6 p = pk6 q → p = q
  | [], [], _, _, _, _ => rfl
  | [], _ :: _, h, _, _, _ => by cases h
  | _ :: _, [], h, _, _, _ => by cases h
  | x :: p, y :: q, h, hp, hq, e => by
    have hx := hp x List.mem_cons_self
    have hy := hq y List.mem_cons_self
    have e : x + 6 * pk6 p = y + 6 * pk6 q := e
    have e1 : x = y := by omega
    have e2 := pk6_i p q (Nat.succ.inj h) (fun z hz => hp z (List.mem_cons_of_mem _ hz)) (fun z hz => hq z (List.mem_cons_of_mem _ hz)) (by omega)
    rw [e1, e2]
