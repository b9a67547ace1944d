/-! the pair link -/
theorem nI_min {a b : Nat} (ha : a < 2 ^ 31) (hb : b < 2 ^ 31) : (if nI b < nI a then nI b else nI a) = nI (min a b) := by
  by_cases h : b < a
  · rw [if_pos (nI_lt h ha), Nat.min_eq_right (by omega)]
  · rw [if_neg (nI_nlt (by omega) hb), Nat.min_eq_left (by omega)]
/-- a bit is set or taken away -/
def lkb (v w x : Int32) : Int32 := if v = 0 then x &&& (w ^^^ -1) else x ||| w
/-- the mask of links, i places on -/
def lkm (m : Int32) (l h : Nat) (v : Int32) : Nat → Int32
  | 0 => m
  | i + 1 => if xp_a5.getD i 0 = nI l ∧ xp_a6.getD i 0 = nI h then lkb v (nI (2 ^ i)) (lkm m l h v i) else lkm m l h v i
section LNK
variable {d : Nat} {M : mm_M}
def li_0 (M : mm_M) (x : Int32) : mm_M := mm_i M 70 (upd (M.1 70) 12 x)
theorem li_g (x : Int32) : (li_0 M x).1 70 12 = x := by
  unfold li_0
  rw [mm_i1]
  rfl
theorem li_p (x y : Int32) : mm_i (li_0 M x) 70 (upd ((li_0 M x).1 70) 12 y) = li_0 M y := by
  unfold li_0
  rw [mm_i1, mm_ii, upd_two]
theorem li_72 (x : Int32) : (li_0 M x).1 72 = M.1 72 := rfl
theorem up_ne {f : Nat → Int32} {l h : Nat} {x : Int32} (e : h ≠ l) : upd f l x h = f h := by
  unfold upd
  rw [if_neg e]
def li_1 (M : mm_M) (l h : Nat) (v : Int32) : mm_M := mm_i (li_0 M (lkm (M.1 70 12) l h v 15)) 72 (upd (upd (M.1 72) l (lkb v (nI (2 ^ h)) (M.1 72 l))) h (lkb v (nI (2 ^ l)) (M.1 72 h)))
set_option maxRecDepth 100000 in
theorem li_l {P : am_Q} {X : am_X} {l h : Nat} {v : Int32} {q1 q2 : am_V} {m0 : Int32} (hX : am_K d false nm_X7_setLink P X) (hK : ∀ l6, X 83 [some (aR 70), some q1, some q2, some (aI v), some (aI (nI l)), some (aI (nI h)), l6] [] (li_0 M (lkm m0 l h v 15))) : ∀ (m i : Nat), i + m = 15 → X 17 [some (aR 70), some q1, some q2, some (aI v), some (aI (nI l)), some (aI (nI h)), some (aI (nI i))] [] (li_0 M (lkm m0 l h v i)) := by
  intro m
  induction m with
  | zero =>
    intro i hi
    have hi : i = 15 := by omega
    subst hi
    refine am_run hX 3 _ _ _ _ ?_
    conv => whnf
    exact ⟨fun _ => hK _, fun c => absurd (by decide) c⟩
  | succ m ih =>
    intro i hi
    have ih := ih (i + 1) (by omega)
    simp only [lkm] at ih
    have ne : ¬ (xp_a5.getD i 0 = nI l ∧ xp_a6.getD i 0 = nI h) → X 77 [some (aR 70), some q1, some q2, some (aI v), some (aI (nI l)), some (aI (nI h)), some (aI (nI i))] [] (li_0 M (lkm m0 l h v i)) := fun hc => by
      rw [if_neg hc] at ih
      refine am_run hX 2 _ _ _ _ ?_
      conv => whnf
      rw [nI_1]
      exact ih
    refine am_run hX 3 _ _ _ _ ?_
    conv => whnf
    refine ⟨fun c => absurd c (nI_ge (b := 15) (by omega) (by decide)), fun _ => ?_⟩
    refine am_run hX 5 _ _ _ _ ?_
    conv => whnf
    refine ⟨vp_in_nI (by show i < 15; omega) (by decide), ?_⟩
    conv => whnf
    rw [nI_clamp (n := i) (by omega)]
    refine ⟨fun c => ne (fun q => c q.1), fun c1 => ?_⟩
    refine am_run hX 5 _ _ _ _ ?_
    conv => whnf
    refine ⟨vp_in_nI (by show i < 15; omega) (by decide), ?_⟩
    conv => whnf
    rw [nI_clamp (n := i) (by omega)]
    refine ⟨fun c => ne (fun q => c q.2), fun c2 => ?_⟩
    rw [if_pos ⟨Decidable.byContradiction c1, Decidable.byContradiction c2⟩] at ih
    unfold lkb at ih
    refine am_run hX 3 _ _ _ _ ?_
    conv => whnf
    refine ⟨fun c => ?_, fun c => ?_⟩
    · rw [if_pos c] at ih
      refine am_run hX 11 _ _ _ _ ?_
      conv => whnf
      rw [li_g, li_p, sh2 i (by omega), nI_1]
      exact ih
    · rw [if_neg c] at ih
      refine am_run hX 10 _ _ _ _ ?_
      conv => whnf
      rw [li_g, li_p, sh2 i (by omega), nI_1]
      exact ih
set_option maxRecDepth 100000 in
theorem ct_setLink {a b : Nat} (v : Int32) (ha : a < 6) (hb : b < 6) (hab : a ≠ b) : am_M (d + 1) false nm_X7_setLink [aR 70, aI (nI a), aI (nI b), aI v] M (am_q0 (li_1 M (min a b) (max a b) v)) := by
  refine ⟨rfl, rfl, rfl, fun X hX => am_run hX 10 _ _ _ _ ?_⟩
  conv => whnf
  rw [nI_min (by omega) (by omega), nI_max (by omega) (by omega)]
  have hl : min a b < 6 := by omega
  have hh : max a b < 6 := by omega
  have hlh : max a b ≠ min a b := by omega
  generalize hle : min a b = l at *
  generalize hhe : max a b = h at *
  have key := li_l (M := M) (l := l) (h := h) (v := v) (q1 := aI (nI a)) (q2 := aI (nI b)) (m0 := M.1 70 12) hX (fun l6 => ?_) 15 0 (by omega)
  · have e : li_0 M (lkm (M.1 70 12) l h v 0) = M := by
      show mm_i M 70 (upd (M.1 70) 12 (M.1 70 12)) = M
      rw [upd_self, mm_iz]
    rw [e] at key
    exact key
  · refine am_run hX 60 _ _ _ _ ?_
    conv => whnf
    refine ⟨fun c => ?_, fun c => ?_⟩
    all_goals
      conv => whnf
      refine ⟨vp_in_nI (by show l < 6; omega) (by decide), ?_⟩
      conv => whnf
      refine ⟨vp_in_nI (by show l < 6; omega) (by decide), ?_⟩
      conv => whnf
    · refine ⟨fun _ => ?_, fun c2 => absurd c c2⟩
      conv => whnf
      refine ⟨vp_in_nI (by show h < 6; omega) (by decide), ?_⟩
      conv => whnf
      refine ⟨vp_in_nI (by show h < 6; omega) (by decide), ?_⟩
      conv => whnf
      refine ⟨trivial, rfl, ?_⟩
      rw [nI_clamp (n := l) (by omega), nI_clamp (n := h) (by omega), sh2 l (by omega), sh2 h (by omega)]
      unfold li_1 lkb
      rw [if_pos c, if_pos c, mm_i1, mm_ii]
      rw [li_72, up_ne hlh]
    · refine ⟨fun c2 => absurd c2 c, fun _ => ?_⟩
      conv => whnf
      refine ⟨vp_in_nI (by show h < 6; omega) (by decide), ?_⟩
      conv => whnf
      refine ⟨vp_in_nI (by show h < 6; omega) (by decide), ?_⟩
      conv => whnf
      refine ⟨trivial, rfl, ?_⟩
      rw [nI_clamp (n := l) (by omega), nI_clamp (n := h) (by omega), sh2 l (by omega), sh2 h (by omega)]
      unfold li_1 lkb
      rw [if_neg c, if_neg c, mm_i1, mm_ii]
      rw [li_72, up_ne hlh]
def ln_no (p q : Int32) : Prop := p < 0 ∨ 5 < p ∨ q < 0 ∨ 5 < q ∨ p = q
theorem ln_sp (p q : Int32) : ln_no p q ∨ ∃ a b, a < 6 ∧ b < 6 ∧ a ≠ b ∧ p = nI a ∧ q = nI b := by
  by_cases h : ln_no p q
  · exact Or.inl h
  · have p0 : ¬ p < 0 := fun c => h (Or.inl c)
    have q0 : ¬ q < 0 := fun c => h (Or.inr (Or.inr (Or.inl c)))
    obtain ⟨a, ha, rfl⟩ := nI_of p0
    obtain ⟨b, hb, rfl⟩ := nI_of q0
    refine Or.inr ⟨a, b, ?_, ?_, ?_, rfl, rfl⟩
    · apply Decidable.byContradiction
      intro hc
      exact h (Or.inr (Or.inl (nI_lt (a := 5) (by omega) ha)))
    · apply Decidable.byContradiction
      intro hc
      exact h (Or.inr (Or.inr (Or.inr (Or.inl (nI_lt (a := 5) (by omega) hb)))))
    · intro e
      exact h (Or.inr (Or.inr (Or.inr (Or.inr (by rw [e])))))
def li_2 (M : mm_M) (a b : Nat) (v : Int32) : mm_M := mm_i (th0 M) 195 (upd (upd (M.1 195) (6 * a + b) v) (6 * b + a) v)
set_option maxRecDepth 100000 in
theorem ln_x1 {a b : Nat} (v : Int32) (ha : a < 6) (hb : b < 6) (hab : a ≠ b) : am_M (d + 2) false nm_X11_link [aR 0, aI (nI a), aI (nI b), aI v] M (am_q1 (aI 1) (li_1 M (min a b) (max a b) v)) := by
  refine ⟨rfl, rfl, rfl, fun X hX => am_run hX 40 _ _ _ _ ?_⟩
  conv => whnf
  refine ⟨fun c => absurd c (nI_pos (by omega)), fun _ => ?_⟩
  conv => whnf
  refine ⟨fun c => absurd c (nI_nlt (a := 5) (by omega) (by decide)), fun _ => ?_⟩
  conv => whnf
  refine ⟨fun c => absurd c (nI_pos (by omega)), fun _ => ?_⟩
  conv => whnf
  refine ⟨fun c => absurd c (nI_nlt (a := 5) (by omega) (by decide)), fun _ => ?_⟩
  conv => whnf
  refine ⟨fun _ => ?_, fun c => absurd (fun e => hab ((nI_eq (by omega) (by omega)).mp e)) c⟩
  conv => whnf
  refine am_c0 (ct_setLink (d := d) v ha hb hab) ?_
  conv => whnf
  exact ⟨rfl, rfl, rfl⟩
set_option maxRecDepth 100000 in
theorem ln_m1 {a b : Nat} {v : Int32} (hv : v = 0 ∨ v = 1) (ha : a < 6) (hb : b < 6) (hab : a ≠ b) : am_M (d + 1) false nm_X12_link [aR 108, aI (nI a), aI (nI b), aI v] M (am_q1 (aI 1) (li_2 M a b v)) := by
  have ea : (6 : Int32) * nI a + nI b = nI (6 * a + b) := by rw [show (6 : Int32) = nI 6 from rfl, nI_mul, nI_add]
  have eb : (6 : Int32) * nI b + nI a = nI (6 * b + a) := by rw [show (6 : Int32) = nI 6 from rfl, nI_mul, nI_add]
  refine ⟨rfl, rfl, rfl, fun X hX => am_run hX 60 _ _ _ _ ?_⟩
  conv => whnf
  refine ⟨fun c => absurd c (nI_pos (by omega)), fun _ => ?_⟩
  conv => whnf
  refine ⟨fun c => absurd c (nI_nlt (a := 5) (by omega) (by decide)), fun _ => ?_⟩
  conv => whnf
  refine ⟨fun c => absurd c (nI_pos (by omega)), fun _ => ?_⟩
  conv => whnf
  refine ⟨fun c => absurd c (nI_nlt (a := 5) (by omega) (by decide)), fun _ => ?_⟩
  conv => whnf
  refine ⟨fun _ => ?_, fun c => absurd (fun e => hab ((nI_eq (by omega) (by omega)).mp e)) c⟩
  conv => whnf
  rw [ea]
  refine ⟨vp_in_nI (by show _ < 36; omega) (by decide), ?_⟩
  conv => whnf
  rw [eb]
  refine ⟨vp_in_nI (by show _ < 36; omega) (by decide), ?_⟩
  conv => whnf
  refine ⟨rfl, rfl, ?_⟩
  rw [nI_clamp (n := 6 * a + b) (by omega), nI_clamp (n := 6 * b + a) (by omega), mm_i1, mm_ii]
  rcases hv with rfl | rfl
  · rfl
  · rfl
set_option maxRecDepth 100000 in
theorem ln_x0 {p q v : Int32} (h : ln_no p q) : am_M (d + 1) false nm_X11_link [aR 0, aI p, aI q, aI v] M (am_q1 (aI 0) M) := by
  refine ⟨rfl, rfl, rfl, fun X hX => am_run hX 40 _ _ _ _ ?_⟩
  conv => whnf
  refine ⟨fun _ => by conv => whnf
                      exact ⟨rfl, rfl, rfl⟩, fun c1 => ?_⟩
  conv => whnf
  refine ⟨fun _ => by conv => whnf
                      exact ⟨rfl, rfl, rfl⟩, fun c2 => ?_⟩
  conv => whnf
  refine ⟨fun _ => by conv => whnf
                      exact ⟨rfl, rfl, rfl⟩, fun c3 => ?_⟩
  conv => whnf
  refine ⟨fun _ => by conv => whnf
                      exact ⟨rfl, rfl, rfl⟩, fun c4 => ?_⟩
  conv => whnf
  refine ⟨fun c5 => absurd ((((h.resolve_left c1).resolve_left c2).resolve_left c3).resolve_left c4) c5, fun _ => ?_⟩
  conv => whnf
  exact ⟨rfl, rfl, rfl⟩
set_option maxRecDepth 100000 in
theorem ln_m0 {p q v : Int32} (h : ln_no p q) : am_M (d + 1) false nm_X12_link [aR 108, aI p, aI q, aI v] M (am_q1 (aI 0) (th0 M)) := by
  refine ⟨rfl, rfl, rfl, fun X hX => am_run hX 40 _ _ _ _ ?_⟩
  conv => whnf
  refine ⟨fun _ => by conv => whnf
                      exact ⟨rfl, rfl, rfl⟩, fun c1 => ?_⟩
  conv => whnf
  refine ⟨fun _ => by conv => whnf
                      exact ⟨rfl, rfl, rfl⟩, fun c2 => ?_⟩
  conv => whnf
  refine ⟨fun _ => by conv => whnf
                      exact ⟨rfl, rfl, rfl⟩, fun c3 => ?_⟩
  conv => whnf
  refine ⟨fun _ => by conv => whnf
                      exact ⟨rfl, rfl, rfl⟩, fun c4 => ?_⟩
  conv => whnf
  refine ⟨fun c5 => absurd ((((h.resolve_left c1).resolve_left c2).resolve_left c3).resolve_left c4) c5, fun _ => ?_⟩
  conv => whnf
  exact ⟨rfl, rfl, rfl⟩
end LNK
section LNP
variable {ac : Nat → ClassId} {lo : Nat} {ad as : Nat → Nat} {b L : Nat} {xs : Nat → Int32} {hp : mm_M → Nat → xm_H} {I J : mm_M → Prop}
theorem pr_link (H : mm_L ac lo hp) (hJ0 : ∀ M, I M → J (th0 M)) (hJ : ∀ M a b v, I M → (v = 0 ∨ v = 1) → a < 6 → b < 6 → a ≠ b → J (li_2 (li_1 M (min a b) (max a b) v) a b v)) (p1 p2 v : Int32) (hv : v = 0 ∨ v = 1) : la_I ac lo ad as b L xs hp I J nm_X11_link nm_X12_link [.int p1, .int p2, .int v] := by
  refine am_la_I (us := [aI p1, aI p2, aI v]) H fun M hI => ?_
  rcases ln_sp p1 p2 with h | ⟨a, b, ha, hb, hab, rfl, rfl⟩
  · refine am_wk (ln_x0 (d := 999) h) fun r M1 e => ⟨0, e.1, ?_⟩
    rw [e.2]
    exact am_wk (ln_m0 (d := 999) h) fun r M1 e => ⟨e.1, by rw [e.2]; exact hJ0 M hI⟩
  · refine am_wk (ln_x1 (d := 998) v ha hb hab) fun r M1 e => ⟨1, e.1, ?_⟩
    rw [e.2]
    exact am_wk (ln_m1 (d := 999) hv ha hb hab) fun r M1 e => ⟨e.1, by rw [e.2]; exact hJ M a b v hI hv ha hb hab⟩
end LNP
