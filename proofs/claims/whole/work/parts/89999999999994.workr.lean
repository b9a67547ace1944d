/-! THE REFERENCE'S WORK ROW, sound: work, clearWork keep it so -/
def wkO (n : Nat) (q t : Nat → Int32) (f g : Nat → Int64) (kk : Nat → Nat) : Prop := n ≤ 22501 ∧ (∀ j, j < n → kk j < 65536 ∧ q j = nI (kk j)) ∧ (∀ a b, a < n → b < n → kk a = kk b → a = b) ∧ (∀ j, j < n → t (kk j) = 1) ∧ ∀ k, k < 65536 → (∀ j, j < n → kk j ≠ k) → t k = 0 ∧ f k = 0 ∧ g k = 0
section WKR
variable {d n : Nat} {M : mm_M} {q t : Nat → Int32} {f g : Nat → Int64} {kk : Nat → Nat}
theorem wkO_c (h : wkO n q t f g kk) : clr q t f g 0 n := fun k hk hj => h.2.2.2.2 k hk fun j hj2 e => hj j (Nat.zero_le _) hj2 (by rw [(h.2.1 j hj2).2, e])
theorem wkO_0 (h : ∀ k, k < 65536 → t k = 0 ∧ f k = 0 ∧ g k = 0) : wkO 0 q t f g kk := ⟨Nat.zero_le _, fun j hj => absurd hj (Nat.not_lt_zero _), fun a b ha _ _ => absurd ha (Nat.not_lt_zero _), fun j hj => absurd hj (Nat.not_lt_zero _), fun k hk _ => h k hk⟩
theorem wkO_in {k : Nat} {u v : Int64} {j0 : Nat} (h : wkO n q t f g kk) (hj0 : j0 < n) (e : kk j0 = k) : wkO n q t (vp_updL f k u) (vp_updL g k v) kk := by
  obtain ⟨h1, h2, h3, h4, h5⟩ := h
  refine ⟨h1, h2, h3, h4, fun x hx hj => ?_⟩
  have hxk : ¬ x = k := fun z => hj j0 hj0 (by rw [e, z])
  unfold vp_updL
  rw [if_neg hxk, if_neg hxk]
  exact h5 x hx hj
theorem wkO_new {k : Nat} {u v : Int64} (h : wkO n q t f g kk) (hn : n < 22501) (hk : k < 65536) (hno : ∀ j, j < n → kk j ≠ k) : wkO (n + 1) (upd q n (nI k)) (upd t k 1) (vp_updL f k u) (vp_updL g k v) (fun j => if j = n then k else kk j) := by
  obtain ⟨h1, h2, h3, h4, h5⟩ := h
  refine ⟨by omega, fun j hj => ?_, fun a b ha hb e => ?_, fun j hj => ?_, fun x hx hj => ?_⟩
  · unfold upd
    dsimp only
    by_cases e : j = n
    · rw [if_pos e, if_pos e]
      exact ⟨hk, rfl⟩
    · rw [if_neg e, if_neg e]
      exact h2 j (by omega)
  · dsimp only at e
    by_cases e1 : a = n
    · by_cases e2 : b = n
      · omega
      · rw [if_pos e1, if_neg e2] at e
        exact absurd e.symm (hno b (by omega))
    · by_cases e2 : b = n
      · rw [if_neg e1, if_pos e2] at e
        exact absurd e (hno a (by omega))
      · rw [if_neg e1, if_neg e2] at e
        exact h3 a b (by omega) (by omega) e
  · show upd t k 1 (if j = n then k else kk j) = 1
    by_cases e : j = n
    · rw [if_pos e]
      unfold upd
      rw [if_pos rfl]
    · rw [if_neg e]
      unfold upd
      rw [if_neg (hno j (by omega))]
      exact h4 j (by omega)
  · have hxk : ¬ x = k := fun z => hj n (by omega) (by dsimp only; rw [if_pos rfl, z])
    unfold upd vp_updL
    rw [if_neg hxk, if_neg hxk, if_neg hxk]
    refine h5 x hx fun j hj2 e => hj j (by omega) ?_
    dsimp only
    rw [if_neg (by omega)]
    exact e
theorem mem_dec (kk : Nat → Nat) (k : Nat) : ∀ n, (∃ j, j < n ∧ kk j = k) ∨ ∀ j, j < n → kk j ≠ k
  | 0 => Or.inr fun j hj => absurd hj (Nat.not_lt_zero _)
  | n + 1 => by
    rcases mem_dec kk k n with ⟨j, hj, e⟩ | h
    · exact Or.inl ⟨j, by omega, e⟩
    · by_cases e : kk n = k
      · exact Or.inl ⟨n, by omega, e⟩
      · refine Or.inr fun j hj => ?_
        by_cases ej : j = n
        · rw [ej]
          exact e
        · exact h j (by omega)
theorem ct_workR {k : Nat} {p r : Int64} (h : wkO n q t f g kk) (hn : n < 22501) (hk : k < 65536) : am_M (d + 1) false nm_X12_work [aR 108, aI (nI k), aJ p, aJ r] (wF M n q t f g) (fun r' M' => r' = .inl none ∧ ∃ n' q' t' kk', n' ≤ n + 1 ∧ wkO n' q' t' (vp_updL f k (f k + p)) (vp_updL g k (g k + r)) kk' ∧ M' = wF M n' q' t' (vp_updL f k (f k + p)) (vp_updL g k (g k + r))) := by
  rcases mem_dec kk k n with ⟨j, hj, e⟩ | hno
  · refine am_wk (ct_work1 (d := d) hk (by rw [← e]; exact h.2.2.2.1 j hj)) ?_
    rintro r' M' ⟨e1, e2⟩
    exact ⟨e1, n, q, t, kk, by omega, wkO_in h hj e, e2⟩
  · refine am_wk (ct_work0 (d := d) hk hn (h.2.2.2.2 k hk hno).1) ?_
    rintro r' M' ⟨e1, e2⟩
    exact ⟨e1, n + 1, _, _, _, Nat.le_refl _, wkO_new h hn hk hno, e2⟩
theorem ct_clrR (h : wkO n q t f g kk) : am_M (d + 1) false nm_X12_clearWork [aR 108] (wF M n q t f g) (fun r M' => r = .inl none ∧ ∃ t f g, (∀ k, k < 65536 → t k = 0 ∧ f k = 0 ∧ g k = 0) ∧ M' = wF M 0 q t f g) := ct_clrW h.1 (fun j hj => ⟨kk j, (h.2.1 j hj).1, (h.2.1 j hj).2⟩) (wkO_c h)
end WKR
