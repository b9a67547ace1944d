/-! DIAGRAMS: all ways of a MEANING, at the class -/
set_option maxRecDepth 100000 in
theorem fl_l45 {d : Nat} {M : mm_M} {v : Int64} {P : am_Q} {X : am_X} (hX : am_K d false nm_J7_fill_d0a16 P X) (hP : P (.inl none) (mm_l M 45 (fun j => if j < 4 then v else M.2 45 j))) : ∀ (m i : Nat), i + m = 4 → X 6 [some (aR 45), some (aJ v), none, some (aI (nI i)), some (aI (nI 4))] [] (mm_l M 45 (fun j => if j < i then v else M.2 45 j)) := by
  intro m
  induction m with
  | zero =>
    intro i hi
    have hi : i = 4 := by omega
    subst hi
    refine am_run hX 4 _ _ _ _ ?_
    conv => whnf
    refine ⟨fun _ => ?_, fun c => absurd (by decide) c⟩
    conv => whnf
    exact ⟨trivial, hP⟩
  | succ m ih =>
    intro i hi
    refine am_run hX 3 _ _ _ _ ?_
    conv => whnf
    refine ⟨fun c => absurd c (nI_ge (by omega) (by decide)), fun _ => ?_⟩
    refine am_run hX 6 _ _ _ _ ?_
    conv => whnf
    refine ⟨vp_in_nI (by show _ < 4; omega) (by decide), ?_⟩
    conv => whnf
    rw [nI_clamp (n := i) (by omega), nI_1, mm_l2, mm_ll]
    have e : vp_updL (fun j => if j < i then v else M.2 45 j) i v = fun j => if j < i + 1 then v else M.2 45 j := by
      funext j
      unfold vp_updL
      by_cases h : j = i
      · rw [if_pos h, if_pos (by omega)]
      · rw [if_neg h]
        dsimp only
        by_cases h2 : j < i
        · rw [if_pos h2, if_pos (by omega)]
        · rw [if_neg h2, if_neg (by omega)]
    rw [e]
    exact ih (i + 1) (by omega)
set_option maxRecDepth 100000 in
theorem ct_fill45 {d : Nat} {M : mm_M} {v : Int64} : am_M (d + 1) false nm_J7_fill_d0a16 [aR 45, aJ v] M (am_q0 (mm_l M 45 (fun j => if j < 4 then v else M.2 45 j))) := by
  refine ⟨rfl, rfl, rfl, fun X hX => am_run hX 5 _ _ _ _ ?_⟩
  conv => whnf
  have key := fl_l45 (M := M) (v := v) hX ⟨rfl, rfl⟩ 4 0 (by omega)
  have e : (fun j => if j < 0 then v else M.2 45 j) = M.2 45 := by
    funext j
    rw [if_neg (by omega)]
  rw [e, mm_lz] at key
  exact key
section WYS
variable {d m inp : Nat} {N : mm_M} {W : WB}
theorem inL_t {κ : Nat → Nat} {n i : Nat} (h : inL inp W κ n i) : ∀ t, t < n → t ≤ κ t := fun t => by
  induction t with
  | zero => exact fun _ => Nat.zero_le _
  | succ t ih =>
    intro ht
    have := ih (by omega)
    have := h.2.1 t (t + 1) (by omega) ht
    omega
theorem inL_b {κ : Nat → Nat} {n i : Nat} (h : inL inp W κ n i) : n ≤ i := by
  by_cases h0 : n = 0
  · omega
  · have := inL_t h (n - 1) (by omega)
    have := (h.1 (n - 1) (by omega)).2.2
    omega
theorem inL_up {κ : Nat → Nat} {n : Nat} (g : gdW m inp W) (h : inL inp W κ n m) : ∀ k, inL inp W κ n (m + k)
  | 0 => h
  | k + 1 => inL_n (inL_up g h k) fun z => by
    have := g.2.2.2.2.1 (m + k) z
    omega
set_option maxRecDepth 100000 in
theorem su_i {Pp : am_Q} {X : am_X} {v1 v2 v3 : Int32} (hX : am_K (d + 1) false nm_X10_sumUp Pp X) (h : cwR N m inp W) (g : gdW m inp W) (hK : ∀ n κ f, inL inp W κ n m → (∀ t, t < n → f t = nI (κ t)) → X 75 [some (aR 39), some (aI v1), some (aI v2), some (aI v3), some (aI (nI n)), some (aI (nI m)), none, none, none, none, none] [] (mm_i N 44 f)) : ∀ w i n κ f, i + w = m → 2 * inp ≤ i → inL inp W κ n i → (∀ t, t < n → f t = nI (κ t)) → X 39 [some (aR 39), some (aI v1), some (aI v2), some (aI v3), some (aI (nI n)), some (aI (nI i)), none, none, none, none, none] [] (mm_i N 44 f) := by
  have m60 := g.1
  have hc : ∀ f, cwR (mm_i N 44 f) m inp W := fun f => h
  intro w
  induction w with
  | zero =>
    intro i n κ f hi h2 hL hf
    have hi : i = m := by omega
    subst hi
    refine am_run hX 4 _ _ _ _ ?_
    conv => whnf
    rw [show (mm_i N 44 f).1 39 6 = nI i from h.1]
    exact ⟨fun _ => hK n κ f hL hf, fun c => absurd (nI_le (by omega) (by omega)) c⟩
  | succ w ih =>
    intro i n κ f hi h2 hL hf
    have bn := inL_b hL
    have hI : vp_in (nI n) 60 := vp_in_nI (by omega) (by decide)
    refine am_run hX 4 _ _ _ _ ?_
    conv => whnf
    rw [show (mm_i N 44 f).1 39 6 = nI m from h.1]
    refine ⟨fun c => absurd c (nI_ge (by omega) (by omega)), fun _ => ?_⟩
    refine am_run hX 4 _ _ _ _ ?_
    conv => whnf
    refine am_c1 (ct_thC (d := d) (hc f) g) ?_
    have nx : ∀ n κ f, inL inp W κ n (i + 1) → (∀ t, t < n → f t = nI (κ t)) → X 69 [some (aR 39), some (aI v1), some (aI v2), some (aI v3), some (aI (nI n)), some (aI (nI i)), none, none, none, none, none] [] (mm_i N 44 f) := fun n κ f hL hf => by
      refine am_run hX 2 _ _ _ _ ?_
      conv => whnf
      rw [nI_1]
      exact ih (i + 1) n κ f (by omega) (by omega) hL hf
    by_cases t : W.1 i = true
    · rw [iteC_t ⟨i, t, rfl⟩]
      conv => whnf
      refine ⟨fun c => absurd c (by decide), fun _ => ?_⟩
      refine am_run hX 6 _ _ _ _ ?_
      conv => whnf
      refine ⟨hI, ?_⟩
      conv => whnf
      rw [nI_clamp (n := n) (by omega), mi_two, nI_1]
      refine nx (n + 1) _ _ (inL_s hL h2 t) fun s hs => ?_
      show upd f n (nI i) s = nI (if s = n then i else κ s)
      unfold upd
      by_cases e : s = n
      · rw [if_pos e, if_pos e]
      · rw [if_neg e, if_neg e]
        exact hf s (by omega)
    · rw [iteC_f (fun ⟨x, hx, e⟩ => t (by
        have := g.2.2.2.2.1 x hx
        rw [(nI_eq (by omega) (by omega)).mp e]
        exact hx))]
      conv => whnf
      exact ⟨fun _ => nx n κ f (inL_n hL t) hf, fun c => absurd rfl c⟩
/-- the values of a way: INPUTS and OUTPUTS, then the inner ones by the way's bits -/
def uvW (fx : Nat → Bool) (κ : Nat → Nat) (w : Nat) : Nat → Nat → Bool
  | 0 => fx
  | t + 1 => fun x => if x = κ t then decide (w / 2 ^ t % 2 = 1) else uvW fx κ w t x
theorem uv_o {fx : Nat → Bool} {κ : Nat → Nat} {w x : Nat} : ∀ n, (∀ t, t < n → κ t ≠ x) → uvW fx κ w n x = fx x
  | 0, _ => rfl
  | n + 1, h => by
    show (if x = κ n then decide (w / 2 ^ n % 2 = 1) else uvW fx κ w n x) = fx x
    rw [if_neg fun z => h n (by omega) z.symm]
    exact uv_o n fun t ht => h t (by omega)
theorem uv_T {fx : Nat → Bool} {κ : Nat → Nat} {w n : Nat} (hfx : ∀ x, fx x = true → x < 2 * inp) (g : gdW m inp W) (hL : inL inp W κ n 60) : ∀ x, uvW fx κ w n x = true → W.1 x = true := fun x hx => by
  rcases mem_dec κ x n with ⟨t, ht, e⟩ | hno
  · rw [← e]
    exact (hL.1 t ht).1
  · rw [uv_o n hno] at hx
    exact g.2.2.2.2.2.1 x (hfx x hx)
end WYS
