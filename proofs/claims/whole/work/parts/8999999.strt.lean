/-! ROWS made straight by both programs -/
theorem sw_n {n k d : Nat} {Y : Nat → RW} (hk : k < n) (hd : d < n) (h : ∀ j, j < n → rw_n n (Y j)) : ∀ j, j < n → rw_n n (swR Y k d j) := fun j hj => by
  unfold swR
  split
  · exact h d hd
  · split
    · exact h k hk
    · exact h j hj
theorem ml_n {n c d : Nat} {Y : Nat → RW} (hd : d < n) (h : ∀ j, j < n → rw_n n (Y j)) (i : Nat) : ∀ j, j < n → rw_n n (mlR n c d Y i j) := fun j hj => by
  rw [ml_p]
  split
  · exact n_mul (h j hj) (h d hd)
  · exact h j hj
theorem rd_n {n : Nat} {Y : Nat → RW} (h : ∀ j, j < n → rw_n n (Y j)) : ∀ c j, j < n → rw_n n ((rdR n Y c).1 j)
  | 0, j, hj => h j hj
  | c + 1, j, hj => by
    have ih := rd_n h c
    have f := fd_p n (rdR n Y c).1 c (n - (rdR n Y c).2) (rdR n Y c).2
    have ⟨p, q⟩ := pv_all n Y c
    have q1 := q.1
    show rw_n n ((stR n c (rdR n Y c)).1 j)
    unfold stR
    by_cases e : fdR n (rdR n Y c).1 c (n - (rdR n Y c).2) (rdR n Y c).2 = n
    · rw [if_pos e]; exact ih j hj
    · rw [if_neg e]
      exact ml_n (by omega) (sw_n (by omega) (by omega) ih) n j hj
def allc (n : Nat) (Y : Nat → RW) : Prop := ∀ i j, i < n → j < n → cmt n (Y i) (Y j)
theorem sw_c {n k d : Nat} {Y : Nat → RW} (hk : k < n) (hd : d < n) (h : allc n Y) : allc n (swR Y k d) := fun i j hi hj => by
  have e : ∀ t, t < n → ∃ s, s < n ∧ swR Y k d t = Y s := fun t ht => by
    unfold swR
    split
    · exact ⟨d, hd, rfl⟩
    · split
      · exact ⟨k, hk, rfl⟩
      · exact ⟨t, ht, rfl⟩
  have ⟨a, ha, ea⟩ := e i hi
  have ⟨b, hb, eb⟩ := e j hj
  rw [ea, eb]
  exact h a b ha hb
theorem ml_c {n c d : Nat} {Y : Nat → RW} (hd : d < n) (h : allc n Y) (m : Nat) : allc n (mlR n c d Y m) := fun i j hi hj => by
  rw [ml_p, ml_p]
  split
  · split
    · exact cmt_m (cmt_c (cmt_m (h j i hj hi) (h d i hd hi))) (cmt_c (cmt_m (h j d hj hd) (h d d hd hd)))
    · exact cmt_m (h i j hi hj) (h d j hd hj)
  · split
    · exact cmt_c (cmt_m (h j i hj hi) (h d i hd hi))
    · exact h i j hi hj
theorem rd_c {n : Nat} {Y : Nat → RW} (h : allc n Y) : ∀ c, allc n (rdR n Y c).1
  | 0 => h
  | c + 1 => by
    have ih := rd_c h c
    have f := fd_p n (rdR n Y c).1 c (n - (rdR n Y c).2) (rdR n Y c).2
    have ⟨p, q⟩ := pv_all n Y c
    have q1 := q.1
    show allc n (stR n c (rdR n Y c)).1
    unfold stR
    by_cases e : fdR n (rdR n Y c).1 c (n - (rdR n Y c).2) (rdR n Y c).2 = n
    · rw [if_pos e]; exact ih
    · rw [if_neg e]
      exact ml_c (by omega) (sw_c (by omega) (by omega) ih) n
section SRT
variable {e : Nat} {M : mm_M} {n : Nat} {Y : Nat → RW}
theorem gAx_u {i : Nat} {y : RW} (hi : i < n) : wA (gA M Y n) i y = gA M (upR Y i y) n := by
  refine Prod.ext (funext fun k => ?_) rfl
  have key : ∀ (f : RW → Nat) (g : Nat → Int32), upd (fun j => if j < n then nI (f (Y j)) else g j) i (nI (f y)) = fun j => if j < n then nI (f (upR Y i y j)) else g j := fun f g => funext fun j => by
    unfold upd upR
    by_cases e : j = i
    · rw [if_pos e, if_pos e, if_pos (by omega)]
    · rw [if_neg e, if_neg e]
  by_cases k6 : k = 26
  · subst k6
    simp only [wA, gA, mm_i]
    exact key (fun y => y.1) _
  · by_cases k7 : k = 27
    · subst k7
      simp only [wA, gA, mm_i]
      exact key (fun y => y.2.1) _
    · by_cases k8 : k = 28
      · subst k8
        simp only [wA, gA, mm_i]
        exact key (fun y => y.2.2) _
      · simp [wA, gA, mm_i, k6, k7, k8]
theorem gAx_d {j : Nat} (hj : j < n) : rA (gA M Y n) j (Y j) := by
  refine ⟨?_, ?_, ?_⟩
  · show (if j < n then _ else _) = _; rw [if_pos hj]
  · show (if j < n then _ else _) = _; rw [if_pos hj]
  · show (if j < n then _ else _) = _; rw [if_pos hj]
theorem gBx_u {i : Nat} {y : RW} (hi : i < n) : wB (gB M Y n) i y = gB M (upR Y i y) n := by
  refine Prod.ext (funext fun k => ?_) rfl
  have key : ∀ (f : RW → Nat) (g : Nat → Int32), upd (fun j => if j < n then nI (f (Y j)) else g j) i (nI (f y)) = fun j => if j < n then nI (f (upR Y i y j)) else g j := fun f g => funext fun j => by
    unfold upd upR
    by_cases e : j = i
    · rw [if_pos e, if_pos e, if_pos (by omega)]
    · rw [if_neg e, if_neg e]
  by_cases k6 : k = 157
  · subst k6
    simp only [wB, gB, mm_i]
    exact key (fun y => y.1) _
  · by_cases k7 : k = 158
    · subst k7
      simp only [wB, gB, mm_i]
      exact key (fun y => y.2.1) _
    · by_cases k8 : k = 159
      · subst k8
        simp only [wB, gB, mm_i]
        exact key (fun y => y.2.2) _
      · simp [wB, gB, mm_i, k6, k7, k8]
theorem gBx_d {j : Nat} (hj : j < n) : rB (gB M Y n) j (Y j) := by
  refine ⟨?_, ?_, ?_⟩
  · show (if j < n then _ else _) = _; rw [if_pos hj]
  · show (if j < n then _ else _) = _; rw [if_pos hj]
  · show (if j < n then _ else _) = _; rw [if_pos hj]
theorem up_sw {k d : Nat} : upR (upR Y k (Y d)) d (Y k) = swR Y k d := funext fun j => by
  unfold upR swR
  by_cases a : j = d
  · rw [if_pos a]
    by_cases b : j = k
    · rw [if_pos b, ← a, b]
    · rw [if_neg b, if_pos a]
  · rw [if_neg a]
    by_cases b : j = k
    · rw [if_pos b, if_pos b]
    · rw [if_neg b, if_neg b, if_neg a]
theorem ml_s {c d i : Nat} (h1 : i ≠ d) (h2 : hb n (mlR n c d Y i i) c = 1) : mlR n c d Y (i + 1) = upR (mlR n c d Y i) i (mulA (mlR n c d Y i i) (mlR n c d Y i d)) := if_pos ⟨h1, h2⟩
theorem ml_k {c d i : Nat} (h : ¬ (i ≠ d ∧ hb n (mlR n c d Y i i) c = 1)) : mlR n c d Y (i + 1) = mlR n c d Y i := if_neg h
set_option maxRecDepth 100000 in
theorem sg_f26 {P : am_Q} {X : am_X} {c d K : Nat} {l6 : Option am_V} (hX : am_K e false nm_X8_straighten P X) (h3 : M.1 25 3 = nI n) (n20 : n ≤ 20) (cc : c < n) (c2 : c < 2 * n) (hR : ∀ j, j < n → rw_n n (Y j)) (hK : X 91 [some (aR 25), some (aI (nI d)), some (aI (nI c)), some (aR 26), some (aI (nI c)), some (aI (nI K)), l6] [] (gA M Y n)) : ∀ (m k : Nat), k + m = n → fdR n Y c m k = K → X 64 [some (aR 25), some (aI (nI d)), some (aI (nI c)), some (aR 26), some (aI (nI c)), some (aI (nI k)), l6] [] (gA M Y n) := by
  intro m
  induction m with
  | zero =>
    intro k hk hE
    have hE : k = K := hE
    subst hE
    refine am_run hX 4 _ _ _ _ ?_
    conv => whnf
    rw [show (gA M Y n).1 25 3 = nI n from h3]
    exact ⟨fun _ => hK, fun q => absurd (nI_le (by omega) (by omega)) q⟩
  | succ m ih =>
    intro k hk hE
    have kn : k < n := by omega
    have r := rw_20 n20 (hR k kn)
    have hE : (if hb n (Y k) c = 1 then k else fdR n Y c m (k + 1)) = K := hE
    refine am_run hX 4 _ _ _ _ ?_
    conv => whnf
    rw [show (gA M Y n).1 25 3 = nI n from h3]
    refine ⟨fun q => absurd q (nI_ge kn (by omega)), fun _ => ?_⟩
    refine am_run hX 8 _ _ _ _ ?_
    conv => whnf
    refine ⟨vp_in_nI (by show k < 20; omega) (by decide), ?_⟩
    conv => whnf
    have v : (gA M Y n).1 26 k = nI (Y k).1 := (gAx_d kn).1
    rw [nI_clamp (n := k) (by omega), v, nI_bt r.1 (by omega)]
    have hv : hb n (Y k) c = bt (Y k).1 c := if_pos cc
    have b2 := bt_lt (Y k).1 c
    by_cases q : bt (Y k).1 c = 0
    · rw [hv, if_neg (by omega)] at hE
      rw [q]
      refine ⟨fun z => absurd rfl z, fun _ => ?_⟩
      refine am_run hX 2 _ _ _ _ ?_
      conv => whnf
      rw [nI_1]
      exact ih (k + 1) (by omega) hE
    · have q1 : bt (Y k).1 c = 1 := by omega
      rw [hv, if_pos q1] at hE
      rw [q1, hE]
      exact ⟨fun _ => hK, fun z => absurd (by decide) z⟩
set_option maxRecDepth 100000 in
theorem sg_m26 {P : am_Q} {X : am_X} {c d : Nat} {k5 : Int32} (hX : am_K (e + 3) false nm_X8_straighten P X) (h3 : M.1 25 3 = nI n) (n20 : n ≤ 20) (cc : c < n) (c2 : c < 2 * n) (hd : d < n) (hR : ∀ j, j < n → rw_n n (Y j)) (hK : ∀ l6, X 153 [some (aR 25), some (aI (nI d)), some (aI (nI c)), some (aR 26), some (aI (nI c)), some (aI k5), l6] [] (gA M (mlR n c d Y n) n)) : ∀ (m i : Nat), i + m = n → X 113 [some (aR 25), some (aI (nI d)), some (aI (nI c)), some (aR 26), some (aI (nI c)), some (aI k5), some (aI (nI i))] [] (gA M (mlR n c d Y i) n) := by
  intro m
  induction m with
  | zero =>
    intro i hi
    have hi : i = n := by omega
    subst hi
    refine am_run hX 4 _ _ _ _ ?_
    conv => whnf
    rw [show (gA M (mlR i c d Y i) i).1 25 3 = nI i from h3]
    exact ⟨fun _ => hK _, fun q => absurd (nI_le (Nat.le_refl _) (by omega)) q⟩
  | succ m ih =>
    intro i hi
    have kn : i < n := by omega
    have r := rw_20 n20 (ml_n (c := c) hd hR i i kn)
    have rd := rw_20 n20 (ml_n (c := c) hd hR i d hd)
    have ih := ih (i + 1) (by omega)
    refine am_run hX 4 _ _ _ _ ?_
    conv => whnf
    rw [show (gA M (mlR n c d Y i) n).1 25 3 = nI n from h3]
    refine ⟨fun q => absurd q (nI_ge kn (by omega)), fun _ => ?_⟩
    have skip : ¬ (i ≠ d ∧ hb n (mlR n c d Y i i) c = 1) → X 147 [some (aR 25), some (aI (nI d)), some (aI (nI c)), some (aR 26), some (aI (nI c)), some (aI k5), some (aI (nI i))] [] (gA M (mlR n c d Y i) n) := fun q => by
      rw [ml_k q] at ih
      refine am_run hX 2 _ _ _ _ ?_
      conv => whnf
      rw [nI_1]
      exact ih
    refine am_run hX 3 _ _ _ _ ?_
    conv => whnf
    refine ⟨fun q => skip fun z => z.1 ((nI_eq (by omega) (by omega)).mp q), fun q => ?_⟩
    have ne : i ≠ d := fun z => q (by rw [z])
    refine am_run hX 8 _ _ _ _ ?_
    conv => whnf
    refine ⟨vp_in_nI (by show i < 20; omega) (by decide), ?_⟩
    conv => whnf
    have v : (gA M (mlR n c d Y i) n).1 26 i = nI (mlR n c d Y i i).1 := (gAx_d kn).1
    rw [nI_clamp (n := i) (by omega), v, nI_bt r.1 (by omega)]
    have hv : hb n (mlR n c d Y i i) c = bt (mlR n c d Y i i).1 c := if_pos cc
    have b2 := bt_lt (mlR n c d Y i i).1 c
    by_cases q : bt (mlR n c d Y i i).1 c = 0
    · rw [q]
      exact ⟨fun _ => skip fun z => by omega, fun z => absurd rfl z⟩
    · have q1 : bt (mlR n c d Y i i).1 c = 1 := by omega
      rw [ml_s ne (by omega)] at ih
      rw [q1]
      refine ⟨fun z => absurd z (by decide), fun _ => ?_⟩
      refine am_run hX 6 _ _ _ _ ?_
      conv => whnf
      refine am_c0 (ct_mulA (d := e) (by omega) (by omega) ne (gAx_d kn) (gAx_d hd) r rd) ?_
      conv => whnf
      rw [nI_1, gAx_u kn]
      exact ih
set_option maxRecDepth 100000 in
theorem sg_f27 {P : am_Q} {X : am_X} {c d K : Nat} {l6 : Option am_V} (hX : am_K e false nm_X8_straighten P X) (h3 : M.1 25 3 = nI n) (n20 : n ≤ 20) (cc : ¬ c < n) (c2 : c < 2 * n) (hR : ∀ j, j < n → rw_n n (Y j)) (hK : X 91 [some (aR 25), some (aI (nI d)), some (aI (nI c)), some (aR 27), some (aI (nI (c - n))), some (aI (nI K)), l6] [] (gA M Y n)) : ∀ (m k : Nat), k + m = n → fdR n Y c m k = K → X 64 [some (aR 25), some (aI (nI d)), some (aI (nI c)), some (aR 27), some (aI (nI (c - n))), some (aI (nI k)), l6] [] (gA M Y n) := by
  intro m
  induction m with
  | zero =>
    intro k hk hE
    have hE : k = K := hE
    subst hE
    refine am_run hX 4 _ _ _ _ ?_
    conv => whnf
    rw [show (gA M Y n).1 25 3 = nI n from h3]
    exact ⟨fun _ => hK, fun q => absurd (nI_le (by omega) (by omega)) q⟩
  | succ m ih =>
    intro k hk hE
    have kn : k < n := by omega
    have r := rw_20 n20 (hR k kn)
    have hE : (if hb n (Y k) c = 1 then k else fdR n Y c m (k + 1)) = K := hE
    refine am_run hX 4 _ _ _ _ ?_
    conv => whnf
    rw [show (gA M Y n).1 25 3 = nI n from h3]
    refine ⟨fun q => absurd q (nI_ge kn (by omega)), fun _ => ?_⟩
    refine am_run hX 8 _ _ _ _ ?_
    conv => whnf
    refine ⟨vp_in_nI (by show k < 20; omega) (by decide), ?_⟩
    conv => whnf
    have v : (gA M Y n).1 27 k = nI (Y k).2.1 := (gAx_d kn).2.1
    rw [nI_clamp (n := k) (by omega), v, nI_bt r.2.1 (by omega)]
    have hv : hb n (Y k) c = bt (Y k).2.1 (c - n) := if_neg cc
    have b2 := bt_lt (Y k).2.1 (c - n)
    by_cases q : bt (Y k).2.1 (c - n) = 0
    · rw [hv, if_neg (by omega)] at hE
      rw [q]
      refine ⟨fun z => absurd rfl z, fun _ => ?_⟩
      refine am_run hX 2 _ _ _ _ ?_
      conv => whnf
      rw [nI_1]
      exact ih (k + 1) (by omega) hE
    · have q1 : bt (Y k).2.1 (c - n) = 1 := by omega
      rw [hv, if_pos q1] at hE
      rw [q1, hE]
      exact ⟨fun _ => hK, fun z => absurd (by decide) z⟩
set_option maxRecDepth 100000 in
theorem sg_m27 {P : am_Q} {X : am_X} {c d : Nat} {k5 : Int32} (hX : am_K (e + 3) false nm_X8_straighten P X) (h3 : M.1 25 3 = nI n) (n20 : n ≤ 20) (cc : ¬ c < n) (c2 : c < 2 * n) (hd : d < n) (hR : ∀ j, j < n → rw_n n (Y j)) (hK : ∀ l6, X 153 [some (aR 25), some (aI (nI d)), some (aI (nI c)), some (aR 27), some (aI (nI (c - n))), some (aI k5), l6] [] (gA M (mlR n c d Y n) n)) : ∀ (m i : Nat), i + m = n → X 113 [some (aR 25), some (aI (nI d)), some (aI (nI c)), some (aR 27), some (aI (nI (c - n))), some (aI k5), some (aI (nI i))] [] (gA M (mlR n c d Y i) n) := by
  intro m
  induction m with
  | zero =>
    intro i hi
    have hi : i = n := by omega
    subst hi
    refine am_run hX 4 _ _ _ _ ?_
    conv => whnf
    rw [show (gA M (mlR i c d Y i) i).1 25 3 = nI i from h3]
    exact ⟨fun _ => hK _, fun q => absurd (nI_le (Nat.le_refl _) (by omega)) q⟩
  | succ m ih =>
    intro i hi
    have kn : i < n := by omega
    have r := rw_20 n20 (ml_n (c := c) hd hR i i kn)
    have rd := rw_20 n20 (ml_n (c := c) hd hR i d hd)
    have ih := ih (i + 1) (by omega)
    refine am_run hX 4 _ _ _ _ ?_
    conv => whnf
    rw [show (gA M (mlR n c d Y i) n).1 25 3 = nI n from h3]
    refine ⟨fun q => absurd q (nI_ge kn (by omega)), fun _ => ?_⟩
    have skip : ¬ (i ≠ d ∧ hb n (mlR n c d Y i i) c = 1) → X 147 [some (aR 25), some (aI (nI d)), some (aI (nI c)), some (aR 27), some (aI (nI (c - n))), some (aI k5), some (aI (nI i))] [] (gA M (mlR n c d Y i) n) := fun q => by
      rw [ml_k q] at ih
      refine am_run hX 2 _ _ _ _ ?_
      conv => whnf
      rw [nI_1]
      exact ih
    refine am_run hX 3 _ _ _ _ ?_
    conv => whnf
    refine ⟨fun q => skip fun z => z.1 ((nI_eq (by omega) (by omega)).mp q), fun q => ?_⟩
    have ne : i ≠ d := fun z => q (by rw [z])
    refine am_run hX 8 _ _ _ _ ?_
    conv => whnf
    refine ⟨vp_in_nI (by show i < 20; omega) (by decide), ?_⟩
    conv => whnf
    have v : (gA M (mlR n c d Y i) n).1 27 i = nI (mlR n c d Y i i).2.1 := (gAx_d kn).2.1
    rw [nI_clamp (n := i) (by omega), v, nI_bt r.2.1 (by omega)]
    have hv : hb n (mlR n c d Y i i) c = bt (mlR n c d Y i i).2.1 (c - n) := if_neg cc
    have b2 := bt_lt (mlR n c d Y i i).2.1 (c - n)
    by_cases q : bt (mlR n c d Y i i).2.1 (c - n) = 0
    · rw [q]
      exact ⟨fun _ => skip fun z => by omega, fun z => absurd rfl z⟩
    · have q1 : bt (mlR n c d Y i i).2.1 (c - n) = 1 := by omega
      rw [ml_s ne (by omega)] at ih
      rw [q1]
      refine ⟨fun z => absurd z (by decide), fun _ => ?_⟩
      refine am_run hX 6 _ _ _ _ ?_
      conv => whnf
      refine am_c0 (ct_mulA (d := e) (by omega) (by omega) ne (gAx_d kn) (gAx_d hd) r rd) ?_
      conv => whnf
      rw [nI_1, gAx_u kn]
      exact ih
end SRT
