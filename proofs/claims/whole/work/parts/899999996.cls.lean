/-! THE CLASS'S SUMS OF PRODUCTS OF ROOTS -/
def s4 (g : Nat → Int64) (x : R4) : Nat → Int64 := fun j => if j = 0 then lI x.1 else if j = 1 then lI x.2.1 else if j = 2 then lI x.2.2.1 else if j = 3 then lI x.2.2.2 else g j
theorem s4_0 (g : Nat → Int64) : (fun j => if j < 4 then 0 else g j) = s4 g (0, 0, 0, 0) := by
  funext j
  unfold s4
  by_cases h : j < 4
  · rw [if_pos h]
    rcases (by omega : j = 0 ∨ j = 1 ∨ j = 2 ∨ j = 3) with rfl | rfl | rfl | rfl <;> rfl
  · rw [if_neg h, if_neg (by omega), if_neg (by omega), if_neg (by omega), if_neg (by omega)]
theorem s4_u0 (g : Nat → Int64) (x : R4) (a : Int) : vp_updL (s4 g x) 0 (lI a) = s4 g (a, x.2.1, x.2.2.1, x.2.2.2) := by
  funext j
  unfold vp_updL s4
  by_cases h : j = 0
  · subst h
    rfl
  · rw [if_neg h]
    simp only [h, if_false]
theorem s4_u1 (g : Nat → Int64) (x : R4) (a : Int) : vp_updL (s4 g x) 1 (lI a) = s4 g (x.1, a, x.2.2.1, x.2.2.2) := by
  funext j
  unfold vp_updL s4
  by_cases h : j = 1
  · subst h
    rfl
  · rw [if_neg h]
    simp only [h, if_false]
theorem s4_u2 (g : Nat → Int64) (x : R4) (a : Int) : vp_updL (s4 g x) 2 (lI a) = s4 g (x.1, x.2.1, a, x.2.2.2) := by
  funext j
  unfold vp_updL s4
  by_cases h : j = 2
  · subst h
    rfl
  · rw [if_neg h]
    simp only [h, if_false]
theorem s4_u3 (g : Nat → Int64) (x : R4) (a : Int) : vp_updL (s4 g x) 3 (lI a) = s4 g (x.1, x.2.1, x.2.2.1, a) := by
  funext j
  unfold vp_updL s4
  by_cases h : j = 3
  · subst h
    rfl
  · rw [if_neg h]
    simp only [h, if_false]
theorem r4_e {x y : R4} (h1 : x.1 = y.1) (h2 : x.2.1 = y.2.1) (h3 : x.2.2.1 = y.2.2.1) (h4 : x.2.2.2 = y.2.2.2) : x = y := Prod.ext h1 (Prod.ext h2 (Prod.ext h3 h4))
theorem a3 : ∀ e, e < 16 → nI e &&& 3 = nI (e % 4) := by decide
theorem a4 : ∀ e, e < 16 → (nI e &&& 4 = 0 ↔ e % 8 < 4) := by decide
theorem s4_t (g : Nat → Int64) (s : R4) (v : Int) (e : Nat) : vp_updL (s4 g s) (e % 4) (s4 g s (e % 4) + lI (if e % 8 < 4 then v else -v)) = s4 g (ra s (t8n (e % 8) (v, 0, 0, 0))) := by
  have h8 : e % 8 < 8 := Nat.mod_lt _ (by decide)
  have h4 : e % 4 = e % 8 % 4 := by omega
  rw [h4]
  obtain ⟨a, b, c, q⟩ := s
  rcases (by omega : e % 8 = 0 ∨ e % 8 = 1 ∨ e % 8 = 2 ∨ e % 8 = 3 ∨ e % 8 = 4 ∨ e % 8 = 5 ∨ e % 8 = 6 ∨ e % 8 = 7) with h | h | h | h | h | h | h | h
  · rw [h]
    show vp_updL (s4 g (a, b, c, q)) 0 (lI a + lI (v)) = _
    rw [lI_add, s4_u0]
    congr 1
    refine r4_e ?_ ?_ ?_ ?_ <;> (dsimp only [t8n, t8, ra]; try omega)
  · rw [h]
    show vp_updL (s4 g (a, b, c, q)) 1 (lI b + lI (v)) = _
    rw [lI_add, s4_u1]
    congr 1
    refine r4_e ?_ ?_ ?_ ?_ <;> (dsimp only [t8n, t8, ra]; try omega)
  · rw [h]
    show vp_updL (s4 g (a, b, c, q)) 2 (lI c + lI (v)) = _
    rw [lI_add, s4_u2]
    congr 1
    refine r4_e ?_ ?_ ?_ ?_ <;> (dsimp only [t8n, t8, ra]; try omega)
  · rw [h]
    show vp_updL (s4 g (a, b, c, q)) 3 (lI q + lI (v)) = _
    rw [lI_add, s4_u3]
    congr 1
    refine r4_e ?_ ?_ ?_ ?_ <;> (dsimp only [t8n, t8, ra]; try omega)
  · rw [h]
    show vp_updL (s4 g (a, b, c, q)) 0 (lI a + lI (-v)) = _
    rw [lI_add, s4_u0]
    congr 1
    refine r4_e ?_ ?_ ?_ ?_ <;> (dsimp only [t8n, t8, ra]; try omega)
  · rw [h]
    show vp_updL (s4 g (a, b, c, q)) 1 (lI b + lI (-v)) = _
    rw [lI_add, s4_u1]
    congr 1
    refine r4_e ?_ ?_ ?_ ?_ <;> (dsimp only [t8n, t8, ra]; try omega)
  · rw [h]
    show vp_updL (s4 g (a, b, c, q)) 2 (lI c + lI (-v)) = _
    rw [lI_add, s4_u2]
    congr 1
    refine r4_e ?_ ?_ ?_ ?_ <;> (dsimp only [t8n, t8, ra]; try omega)
  · rw [h]
    show vp_updL (s4 g (a, b, c, q)) 3 (lI q + lI (-v)) = _
    rw [lI_add, s4_u3]
    congr 1
    refine r4_e ?_ ?_ ?_ ?_ <;> (dsimp only [t8n, t8, ra]; try omega)
theorem ra_t (s u v : R4) (e : Nat) : ra (ra s (t8n e u)) (t8n e v) = ra s (t8n e (ra u v)) := by
  rw [t8n_ra]
  obtain ⟨a1, a2, a3, a4⟩ := s
  generalize t8n e u = y
  generalize t8n e v = z
  obtain ⟨b1, b2, b3, b4⟩ := y
  obtain ⟨c1, c2, c3, c4⟩ := z
  simp only [ra, Prod.mk.injEq]
  omega
/-- a part by its number -/
def pp (y : R4) (p : Nat) : Int := if p = 0 then y.1 else if p = 1 then y.2.1 else if p = 2 then y.2.2.1 else y.2.2.2
def ap (A y s : R4) (e p : Nat) : R4 := ra (ra (ra (ra s (t8n ((p + e) % 8) (A.1 * pp y p, 0, 0, 0))) (t8n ((p + e + 1) % 8) (A.2.1 * pp y p, 0, 0, 0))) (t8n ((p + e + 2) % 8) (A.2.2.1 * pp y p, 0, 0, 0))) (t8n ((p + e + 3) % 8) (A.2.2.2 * pp y p, 0, 0, 0))
theorem ap_4 (A y s : R4) (e : Nat) : ap A y (ap A y (ap A y (ap A y s e 0) e 1) e 2) e 3 = ra s (t8n e (mu A y)) := by
  have h : ∀ (n : Nat) (z : R4), t8n ((n + e) % 8) z = t8n e (t8n n z) := fun n z => by rw [← t8n_m, Nat.add_comm, t8n_a]
  have h1 : ∀ (n : Nat) (z : R4), t8n ((n + e + 1) % 8) z = t8n e (t8n (n + 1) z) := fun n z => by rw [show n + e + 1 = n + 1 + e by omega, h]
  have h2 : ∀ (n : Nat) (z : R4), t8n ((n + e + 2) % 8) z = t8n e (t8n (n + 2) z) := fun n z => by rw [show n + e + 2 = n + 2 + e by omega, h]
  have h3 : ∀ (n : Nat) (z : R4), t8n ((n + e + 3) % 8) z = t8n e (t8n (n + 3) z) := fun n z => by rw [show n + e + 3 = n + 3 + e by omega, h]
  unfold ap
  simp only [h, h1, h2, h3, ra_t]
  congr 2
  obtain ⟨a, b, c, q⟩ := A
  obtain ⟨y1, y2, y3, y4⟩ := y
  simp only [pp, t8n, t8, ra, mu, Prod.mk.injEq]
  refine ⟨?_, ?_, ?_, ?_⟩ <;> simp <;> omega
/-- what is told of a real number -/
def rq (y : (Int × Int) × Nat) (q : Int32) : Int64 := if q = 0 then lI y.1.1 else if q = 1 then lI y.1.2 else (nI y.2).toInt64
theorem lo_par (a b : Int) : (lI a ||| lI b) &&& 1 = 0 ↔ a % 2 = 0 ∧ b % 2 = 0 := by
  rw [← lI_par a, ← lI_par b, l_1, l_1, l_1, Int64.toBitVec_or, BitVec.getLsbD_or]
  cases (lI a).toBitVec.getLsbD 0 <;> cases (lI b).toBitVec.getLsbD 0 <;> simp
section CLS
variable {d : Nat} {M : mm_M} {g : Nat → Int64}
set_option maxRecDepth 100000 in
theorem re_e {X : am_X} {u v : Int} {h : Nat} {q : Int32} {F : (Int × Int) × Nat} (hX : am_K d false nm_X6_realPart (am_q1 (aJ (rq F q)) M) X) (hF : ((u, v), h) = F) (k : Int32) : X 45 [some (aJ (lI u)), none, some (aJ (lI v)), none, some (aI k), some (aI q), some (aI (nI h))] [] M := by
  subst hF
  unfold rq at hX
  refine am_run hX 20 _ _ _ _ ?_
  conv => whnf
  refine ⟨fun e0 => ?_, fun e => ?_⟩
  · conv => whnf
    refine ⟨fun e1 => ?_, fun e => ?_⟩
    · conv => whnf
      exact ⟨trivial, by rw [if_neg e0, if_neg e1], rfl⟩
    · have e : q = 1 := Decidable.byContradiction e
      conv => whnf
      exact ⟨trivial, by rw [if_neg e0, if_pos e], rfl⟩
  · have e : q = 0 := Decidable.byContradiction e
    conv => whnf
    exact ⟨trivial, by rw [if_pos e], rfl⟩
set_option maxRecDepth 100000 in
theorem re_l {X : am_X} {q : Int32} {F : (Int × Int) × Nat} (hX : am_K d false nm_X6_realPart (am_q1 (aJ (rq F q)) M) X) (k : Int32) : ∀ (h : Nat) (u v : Int), h < 2 ^ 31 → (-2 ^ 62 ≤ u ∧ u ≤ 2 ^ 62) → (-2 ^ 62 ≤ v ∧ v ≤ 2 ^ 62) → (u = 0 ∧ v = 0 → h = 0) → rh h u v = F → X 16 [some (aJ (lI u)), none, some (aJ (lI v)), none, some (aI k), some (aI q), some (aI (nI h))] [] M := by
  intro h
  induction h with
  | zero =>
    intro u v hh hu hv h0 hF
    refine am_run hX 2 _ _ _ _ ?_
    conv => whnf
    exact ⟨fun _ => re_e hX hF _, fun c => absurd (by decide) c⟩
  | succ h ih =>
    intro u v hh hu hv h0 hF
    have hne : ¬ (u = 0 ∧ v = 0) := fun e => by have := h0 e; omega
    simp only [rh] at hF
    rw [if_neg hne] at hF
    refine am_run hX 2 _ _ _ _ ?_
    conv => whnf
    refine ⟨fun c => absurd c (nI_nle (by omega) hh), fun _ => ?_⟩
    refine am_run hX 8 _ _ _ _ ?_
    conv => whnf
    rw [lg_0, lo_par]
    refine ⟨fun c => ?_, fun c => ?_⟩
    · rw [if_neg c] at hF
      exact re_e hX hF _
    · have c : u % 2 = 0 ∧ v % 2 = 0 := Decidable.byContradiction c
      rw [if_pos c] at hF
      refine am_run hX 10 _ _ _ _ ?_
      conv => whnf
      rw [lI_sh (by omega) (by omega), lI_sh (by omega) (by omega), nI_m1']
      exact ih (u / 2) (v / 2) (by omega) (by omega) (by omega) (fun e => by exfalso; omega) hF
set_option maxRecDepth 100000 in
theorem ct_real {u v : Int} {k : Nat} (q : Int32) (hk : k < 2 ^ 31) (hu : -2 ^ 62 ≤ u ∧ u ≤ 2 ^ 62) (hv : -2 ^ 62 ≤ v ∧ v ≤ 2 ^ 62) : am_M (d + 1) false nm_X6_realPart [aJ (lI u), aJ (lI v), aI (nI k), aI q] M (am_q1 (aJ (rq (rh k u v) q)) M) := by
  refine ⟨rfl, rfl, rfl, fun X hX => am_run hX 6 _ _ _ _ ?_⟩
  conv => whnf
  rw [lg_0, lor_0, lI_0 (by omega) (by omega), lI_0 (by omega) (by omega)]
  refine ⟨fun hc => ?_, fun hc => ?_⟩
  · refine am_run hX 2 _ _ _ _ ?_
    conv => whnf
    exact re_l hX _ k u v hk hu hv (fun e => absurd e hc) rfl
  · have hc : u = 0 ∧ v = 0 := Decidable.byContradiction hc
    refine am_run hX 3 _ _ _ _ ?_
    conv => whnf
    refine re_l hX _ 0 u v (by decide) hu hv (fun _ => rfl) ?_
    rw [hc.1, hc.2, rh_0, rh_0]
set_option maxRecDepth 100000 in
theorem fl_l19 {v : Int64} {P : am_Q} {X : am_X} (hX : am_K d false nm_J7_fill_d0a16 P X) (hP : P (.inl none) (mm_l M 19 (fun j => if j < 4 then v else M.2 19 j))) : ∀ (m i : Nat), i + m = 4 → X 6 [some (aR 19), some (aJ v), none, some (aI (nI i)), some (aI (nI 4))] [] (mm_l M 19 (fun j => if j < i then v else M.2 19 j)) := by
  intro m
  induction m with
  | zero =>
    intro i hi
    have hi : i = 4 := by omega
    subst hi
    refine am_run hX 4 _ _ _ _ ?_
    conv => whnf
    refine ⟨fun _ => ?_, fun c => absurd (by decide) c⟩
    conv => whnf
    exact ⟨trivial, hP⟩
  | succ m ih =>
    intro i hi
    refine am_run hX 3 _ _ _ _ ?_
    conv => whnf
    refine ⟨fun c => absurd c (nI_ge (by omega) (by decide)), fun _ => ?_⟩
    refine am_run hX 6 _ _ _ _ ?_
    conv => whnf
    refine ⟨vp_in_nI (by show _ < 4; omega) (by decide), ?_⟩
    conv => whnf
    rw [nI_clamp (n := i) (by omega), nI_1, mm_l2, mm_ll]
    have e : vp_updL (fun j => if j < i then v else M.2 19 j) i v = fun j => if j < i + 1 then v else M.2 19 j := by
      funext j
      unfold vp_updL
      by_cases h : j = i
      · rw [if_pos h, if_pos (by omega)]
      · rw [if_neg h]
        dsimp only
        by_cases h2 : j < i
        · rw [if_pos h2, if_pos (by omega)]
        · rw [if_neg h2, if_neg (by omega)]
    rw [e]
    exact ih (i + 1) (by omega)
set_option maxRecDepth 100000 in
theorem ct_fill19 {v : Int64} : am_M (d + 1) false nm_J7_fill_d0a16 [aR 19, aJ v] M (am_q0 (mm_l M 19 (fun j => if j < 4 then v else M.2 19 j))) := by
  refine ⟨rfl, rfl, rfl, fun X hX => am_run hX 5 _ _ _ _ ?_⟩
  conv => whnf
  have key := fl_l19 (M := M) (v := v) hX ⟨rfl, rfl⟩ 4 0 (by omega)
  have e : (fun j => if j < 0 then v else M.2 19 j) = M.2 19 := by
    funext j
    rw [if_neg (by omega)]
  rw [e, mm_lz] at key
  exact key
set_option maxRecDepth 100000 in
theorem ct_clear19 : am_M (d + 2) false nm_X6_clearSum [aR 18] M (am_q0 (mm_l M 19 (s4 (M.2 19) (0, 0, 0, 0)))) := by
  refine ⟨rfl, rfl, rfl, fun X hX => am_run hX 10 _ _ _ _ ?_⟩
  conv => whnf
  refine am_c0 (ct_fill19 (d := d)) ?_
  rw [s4_0]
  conv => whnf
  exact ⟨trivial, rfl, rfl⟩
set_option maxRecDepth 100000 in
theorem ct_addTo19 {e : Nat} {s : R4} {v : Int} (he : e < 16) : am_M (d + 1) false nm_X6_addTo [aR 18, aI (nI e), aJ (lI v)] (mm_l M 19 (s4 g s)) (am_q0 (mm_l M 19 (s4 g (ra s (t8n (e % 8) (v, 0, 0, 0)))))) := by
  have key := s4_t g s v e
  refine ⟨rfl, rfl, rfl, fun X hX => am_run hX 20 _ _ _ _ ?_⟩
  conv => whnf
  rw [a3 e he]
  refine ⟨vp_in_nI (by show _ < 4; omega) (by decide), ?_⟩
  conv => whnf
  rw [a4 e he]
  refine ⟨fun c => ?_, fun c => ?_⟩
  · conv => whnf
    refine ⟨vp_in_nI (by show _ < 4; omega) (by decide), ?_⟩
    conv => whnf
    refine ⟨trivial, rfl, ?_⟩
    rw [nI_clamp (n := e % 4) (by omega), mm_l2, mm_ll, lI_neg]
    rw [if_neg c] at key
    rw [key]
  · have c : e % 8 < 4 := Decidable.byContradiction c
    conv => whnf
    refine ⟨vp_in_nI (by show _ < 4; omega) (by decide), ?_⟩
    conv => whnf
    refine ⟨trivial, rfl, ?_⟩
    rw [nI_clamp (n := e % 4) (by omega), mm_l2, mm_ll]
    rw [if_pos c] at key
    rw [key]
set_option maxRecDepth 100000 in
theorem ap_b19 {P : am_Q} {X : am_X} {i j e p : Nat} {b : Int32} {A y s : R4} (hX : am_K (d + 1) false nm_X6_addProduct P X) (hj : j < 256) (he : e < 8) (hp : p < 4) (hy : M.2 20 (4 * j + p) = lI (pp y p)) (l14 l15 : Option am_V) (hK : ∀ l14 l15, X 106 [some (aR 18), some (aI (nI i)), some (aI (nI j)), some (aI (nI e)), some (aI b), some (aJ (lI A.1)), none, some (aJ (lI A.2.1)), none, some (aJ (lI A.2.2.1)), none, some (aJ (lI A.2.2.2)), none, some (aI (nI (p + 1))), l14, l15] [] (mm_l M 19 (s4 g (ap A y s e p)))) : X 106 [some (aR 18), some (aI (nI i)), some (aI (nI j)), some (aI (nI e)), some (aI b), some (aJ (lI A.1)), none, some (aJ (lI A.2.1)), none, some (aJ (lI A.2.2.1)), none, some (aJ (lI A.2.2.2)), none, some (aI (nI p)), l14, l15] [] (mm_l M 19 (s4 g s)) := by
  refine am_run hX 3 _ _ _ _ ?_
  conv => whnf
  refine ⟨fun c => absurd c (nI_ge (a := p) (b := 4) hp (by decide)), fun _ => ?_⟩
  refine am_run hX 49 _ _ _ _ ?_
  conv => whnf
  rw [show (4 : Int32) = nI 4 from rfl, nI_mul, nI_add]
  refine ⟨vp_in_nI (by show _ < 1024; omega) (by decide), ?_⟩
  conv => whnf
  rw [nI_clamp (n := 4 * j + p) (by omega), mm_lne _ 19 20 _ (by decide), hy, lI_mul, nI_add]
  refine am_c0 (ct_addTo19 (d := d) (by omega)) ?_
  simp only [List.drop_succ_cons, List.drop_zero, List.append_eq, List.nil_append, List.append_nil]
  conv => whnf
  rw [lI_mul, nI_add, nI_1]
  refine am_c0 (ct_addTo19 (d := d) (by omega)) ?_
  simp only [List.drop_succ_cons, List.drop_zero, List.append_eq, List.nil_append, List.append_nil]
  conv => whnf
  rw [lI_mul, nI_add, show (2 : Int32) = nI 2 from rfl, nI_add]
  refine am_c0 (ct_addTo19 (d := d) (by omega)) ?_
  simp only [List.drop_succ_cons, List.drop_zero, List.append_eq, List.nil_append, List.append_nil]
  conv => whnf
  rw [lI_mul, nI_add, show (3 : Int32) = nI 3 from rfl, nI_add]
  refine am_c0 (ct_addTo19 (d := d) (by omega)) ?_
  simp only [List.drop_succ_cons, List.drop_zero, List.append_eq, List.nil_append, List.append_nil]
  conv => whnf
  rw [nI_1]
  exact hK _ _
set_option maxRecDepth 100000 in
theorem ct_prod19 {i j e : Nat} {x y s : R4} (hi : i < 256) (hj : j < 256) (he : e < 8) (hx : rt_at M 20 i x) (hy : rt_at M 20 j y) : am_M (d + 2) false nm_X6_addProduct [aR 18, aI (nI i), aI (nI j), aI (nI e), aI 1] (mm_l M 19 (s4 g s)) (am_q0 (mm_l M 19 (s4 g (ra s (t8n e (mu (cj x) y)))))) := by
  obtain ⟨x1, x2, x3, x4⟩ := hx
  obtain ⟨y1, y2, y3, y4⟩ := hy
  refine ⟨rfl, rfl, rfl, fun X hX => ?_⟩
  have hK : ∀ l14 l15, X 106 [some (aR 18), some (aI (nI i)), some (aI (nI j)), some (aI (nI e)), some (aI 1), some (aJ (lI (cj x).1)), none, some (aJ (lI (cj x).2.1)), none, some (aJ (lI (cj x).2.2.1)), none, some (aJ (lI (cj x).2.2.2)), none, some (aI (nI 4)), l14, l15] [] (mm_l M 19 (s4 g (ap (cj x) y (ap (cj x) y (ap (cj x) y (ap (cj x) y s e 0) e 1) e 2) e 3))) := fun l14 l15 => by
    refine am_run hX 10 _ _ _ _ ?_
    conv => whnf
    refine ⟨fun _ => ?_, fun c => absurd (by decide) c⟩
    conv => whnf
    refine ⟨trivial, rfl, ?_⟩
    rw [ap_4]
  have h3 := fun l14 l15 => ap_b19 (i := i) (b := 1) (A := cj x) hX hj he (p := 3) (by decide) y4 l14 l15 hK
  have h2 := fun l14 l15 => ap_b19 (i := i) (b := 1) (A := cj x) hX hj he (p := 2) (by decide) y3 l14 l15 h3
  have h1 := fun l14 l15 => ap_b19 (i := i) (b := 1) (A := cj x) hX hj he (p := 1) (by decide) y2 l14 l15 h2
  have h0 := fun l14 l15 => ap_b19 (i := i) (b := 1) (A := cj x) hX hj he (p := 0) (by decide) y1 l14 l15 h1
  refine am_run hX 6 _ _ _ _ ?_
  conv => whnf
  rw [show (4 : Int32) = nI 4 from rfl, nI_mul]
  refine ⟨vp_in_nI (by show _ < 1024; omega) (by decide), ?_⟩
  refine am_run hX 3 _ _ _ _ ?_
  conv => whnf
  refine ⟨fun c => absurd c (by decide), fun _ => ?_⟩
  refine am_run hX 8 _ _ _ _ ?_
  conv => whnf
  rw [show (4 : Int32) = nI 4 from rfl, nI_mul, show (3 : Int32) = nI 3 from rfl, nI_add]
  refine ⟨vp_in_nI (by show _ < 1024; omega) (by decide), ?_⟩
  refine am_run hX 5 _ _ _ _ ?_
  conv => whnf
  refine ⟨fun c => absurd c (by decide), fun _ => ?_⟩
  refine am_run hX 8 _ _ _ _ ?_
  conv => whnf
  rw [show (4 : Int32) = nI 4 from rfl, nI_mul, show (2 : Int32) = nI 2 from rfl, nI_add]
  refine ⟨vp_in_nI (by show _ < 1024; omega) (by decide), ?_⟩
  refine am_run hX 5 _ _ _ _ ?_
  conv => whnf
  refine ⟨fun c => absurd c (by decide), fun _ => ?_⟩
  refine am_run hX 8 _ _ _ _ ?_
  conv => whnf
  rw [show (4 : Int32) = nI 4 from rfl, nI_mul, nI_1]
  refine ⟨vp_in_nI (by show _ < 1024; omega) (by decide), ?_⟩
  refine am_run hX 5 _ _ _ _ ?_
  conv => whnf
  rw [nI_clamp (n := 4 * i) (by omega), nI_clamp (n := 4 * i + 1) (by omega), nI_clamp (n := 4 * i + 2) (by omega), nI_clamp (n := 4 * i + 3) (by omega), mm_lne _ 19 20 _ (by decide), x1, x2, x3, x4, lI_neg, lI_neg, lI_neg]
  exact h0 _ _
set_option maxRecDepth 100000 in
theorem fl_l106 {v : Int64} {P : am_Q} {X : am_X} (hX : am_K d false nm_J7_fill_d0a16 P X) (hP : P (.inl none) (mm_l M 106 (fun j => if j < 4 then v else M.2 106 j))) : ∀ (m i : Nat), i + m = 4 → X 6 [some (aR 106), some (aJ v), none, some (aI (nI i)), some (aI (nI 4))] [] (mm_l M 106 (fun j => if j < i then v else M.2 106 j)) := by
  intro m
  induction m with
  | zero =>
    intro i hi
    have hi : i = 4 := by omega
    subst hi
    refine am_run hX 4 _ _ _ _ ?_
    conv => whnf
    refine ⟨fun _ => ?_, fun c => absurd (by decide) c⟩
    conv => whnf
    exact ⟨trivial, hP⟩
  | succ m ih =>
    intro i hi
    refine am_run hX 3 _ _ _ _ ?_
    conv => whnf
    refine ⟨fun c => absurd c (nI_ge (by omega) (by decide)), fun _ => ?_⟩
    refine am_run hX 6 _ _ _ _ ?_
    conv => whnf
    refine ⟨vp_in_nI (by show _ < 4; omega) (by decide), ?_⟩
    conv => whnf
    rw [nI_clamp (n := i) (by omega), nI_1, mm_l2, mm_ll]
    have e : vp_updL (fun j => if j < i then v else M.2 106 j) i v = fun j => if j < i + 1 then v else M.2 106 j := by
      funext j
      unfold vp_updL
      by_cases h : j = i
      · rw [if_pos h, if_pos (by omega)]
      · rw [if_neg h]
        dsimp only
        by_cases h2 : j < i
        · rw [if_pos h2, if_pos (by omega)]
        · rw [if_neg h2, if_neg (by omega)]
    rw [e]
    exact ih (i + 1) (by omega)
set_option maxRecDepth 100000 in
theorem ct_fill106 {v : Int64} : am_M (d + 1) false nm_J7_fill_d0a16 [aR 106, aJ v] M (am_q0 (mm_l M 106 (fun j => if j < 4 then v else M.2 106 j))) := by
  refine ⟨rfl, rfl, rfl, fun X hX => am_run hX 5 _ _ _ _ ?_⟩
  conv => whnf
  have key := fl_l106 (M := M) (v := v) hX ⟨rfl, rfl⟩ 4 0 (by omega)
  have e : (fun j => if j < 0 then v else M.2 106 j) = M.2 106 := by
    funext j
    rw [if_neg (by omega)]
  rw [e, mm_lz] at key
  exact key
set_option maxRecDepth 100000 in
theorem ct_clear106 : am_M (d + 2) false nm_X6_clearSum [aR 105] M (am_q0 (mm_l M 106 (s4 (M.2 106) (0, 0, 0, 0)))) := by
  refine ⟨rfl, rfl, rfl, fun X hX => am_run hX 10 _ _ _ _ ?_⟩
  conv => whnf
  refine am_c0 (ct_fill106 (d := d)) ?_
  rw [s4_0]
  conv => whnf
  exact ⟨trivial, rfl, rfl⟩
set_option maxRecDepth 100000 in
theorem ct_addTo106 {e : Nat} {s : R4} {v : Int} (he : e < 16) : am_M (d + 1) false nm_X6_addTo [aR 105, aI (nI e), aJ (lI v)] (mm_l M 106 (s4 g s)) (am_q0 (mm_l M 106 (s4 g (ra s (t8n (e % 8) (v, 0, 0, 0)))))) := by
  have key := s4_t g s v e
  refine ⟨rfl, rfl, rfl, fun X hX => am_run hX 20 _ _ _ _ ?_⟩
  conv => whnf
  rw [a3 e he]
  refine ⟨vp_in_nI (by show _ < 4; omega) (by decide), ?_⟩
  conv => whnf
  rw [a4 e he]
  refine ⟨fun c => ?_, fun c => ?_⟩
  · conv => whnf
    refine ⟨vp_in_nI (by show _ < 4; omega) (by decide), ?_⟩
    conv => whnf
    refine ⟨trivial, rfl, ?_⟩
    rw [nI_clamp (n := e % 4) (by omega), mm_l2, mm_ll, lI_neg]
    rw [if_neg c] at key
    rw [key]
  · have c : e % 8 < 4 := Decidable.byContradiction c
    conv => whnf
    refine ⟨vp_in_nI (by show _ < 4; omega) (by decide), ?_⟩
    conv => whnf
    refine ⟨trivial, rfl, ?_⟩
    rw [nI_clamp (n := e % 4) (by omega), mm_l2, mm_ll]
    rw [if_pos c] at key
    rw [key]
set_option maxRecDepth 100000 in
theorem ap_b106 {P : am_Q} {X : am_X} {i j e p : Nat} {b : Int32} {A y s : R4} (hX : am_K (d + 1) false nm_X6_addProduct P X) (hj : j < 64) (he : e < 8) (hp : p < 4) (hy : M.2 107 (4 * j + p) = lI (pp y p)) (l14 l15 : Option am_V) (hK : ∀ l14 l15, X 106 [some (aR 105), some (aI (nI i)), some (aI (nI j)), some (aI (nI e)), some (aI b), some (aJ (lI A.1)), none, some (aJ (lI A.2.1)), none, some (aJ (lI A.2.2.1)), none, some (aJ (lI A.2.2.2)), none, some (aI (nI (p + 1))), l14, l15] [] (mm_l M 106 (s4 g (ap A y s e p)))) : X 106 [some (aR 105), some (aI (nI i)), some (aI (nI j)), some (aI (nI e)), some (aI b), some (aJ (lI A.1)), none, some (aJ (lI A.2.1)), none, some (aJ (lI A.2.2.1)), none, some (aJ (lI A.2.2.2)), none, some (aI (nI p)), l14, l15] [] (mm_l M 106 (s4 g s)) := by
  refine am_run hX 3 _ _ _ _ ?_
  conv => whnf
  refine ⟨fun c => absurd c (nI_ge (a := p) (b := 4) hp (by decide)), fun _ => ?_⟩
  refine am_run hX 49 _ _ _ _ ?_
  conv => whnf
  rw [show (4 : Int32) = nI 4 from rfl, nI_mul, nI_add]
  refine ⟨vp_in_nI (by show _ < 256; omega) (by decide), ?_⟩
  conv => whnf
  rw [nI_clamp (n := 4 * j + p) (by omega), mm_lne _ 106 107 _ (by decide), hy, lI_mul, nI_add]
  refine am_c0 (ct_addTo106 (d := d) (by omega)) ?_
  simp only [List.drop_succ_cons, List.drop_zero, List.append_eq, List.nil_append, List.append_nil]
  conv => whnf
  rw [lI_mul, nI_add, nI_1]
  refine am_c0 (ct_addTo106 (d := d) (by omega)) ?_
  simp only [List.drop_succ_cons, List.drop_zero, List.append_eq, List.nil_append, List.append_nil]
  conv => whnf
  rw [lI_mul, nI_add, show (2 : Int32) = nI 2 from rfl, nI_add]
  refine am_c0 (ct_addTo106 (d := d) (by omega)) ?_
  simp only [List.drop_succ_cons, List.drop_zero, List.append_eq, List.nil_append, List.append_nil]
  conv => whnf
  rw [lI_mul, nI_add, show (3 : Int32) = nI 3 from rfl, nI_add]
  refine am_c0 (ct_addTo106 (d := d) (by omega)) ?_
  simp only [List.drop_succ_cons, List.drop_zero, List.append_eq, List.nil_append, List.append_nil]
  conv => whnf
  rw [nI_1]
  exact hK _ _
set_option maxRecDepth 100000 in
theorem ct_prod106 {i j e : Nat} {x y s : R4} (hi : i < 64) (hj : j < 64) (he : e < 8) (hx : rt_at M 107 i x) (hy : rt_at M 107 j y) : am_M (d + 2) false nm_X6_addProduct [aR 105, aI (nI i), aI (nI j), aI (nI e), aI 1] (mm_l M 106 (s4 g s)) (am_q0 (mm_l M 106 (s4 g (ra s (t8n e (mu (cj x) y)))))) := by
  obtain ⟨x1, x2, x3, x4⟩ := hx
  obtain ⟨y1, y2, y3, y4⟩ := hy
  refine ⟨rfl, rfl, rfl, fun X hX => ?_⟩
  have hK : ∀ l14 l15, X 106 [some (aR 105), some (aI (nI i)), some (aI (nI j)), some (aI (nI e)), some (aI 1), some (aJ (lI (cj x).1)), none, some (aJ (lI (cj x).2.1)), none, some (aJ (lI (cj x).2.2.1)), none, some (aJ (lI (cj x).2.2.2)), none, some (aI (nI 4)), l14, l15] [] (mm_l M 106 (s4 g (ap (cj x) y (ap (cj x) y (ap (cj x) y (ap (cj x) y s e 0) e 1) e 2) e 3))) := fun l14 l15 => by
    refine am_run hX 10 _ _ _ _ ?_
    conv => whnf
    refine ⟨fun _ => ?_, fun c => absurd (by decide) c⟩
    conv => whnf
    refine ⟨trivial, rfl, ?_⟩
    rw [ap_4]
  have h3 := fun l14 l15 => ap_b106 (i := i) (b := 1) (A := cj x) hX hj he (p := 3) (by decide) y4 l14 l15 hK
  have h2 := fun l14 l15 => ap_b106 (i := i) (b := 1) (A := cj x) hX hj he (p := 2) (by decide) y3 l14 l15 h3
  have h1 := fun l14 l15 => ap_b106 (i := i) (b := 1) (A := cj x) hX hj he (p := 1) (by decide) y2 l14 l15 h2
  have h0 := fun l14 l15 => ap_b106 (i := i) (b := 1) (A := cj x) hX hj he (p := 0) (by decide) y1 l14 l15 h1
  refine am_run hX 6 _ _ _ _ ?_
  conv => whnf
  rw [show (4 : Int32) = nI 4 from rfl, nI_mul]
  refine ⟨vp_in_nI (by show _ < 256; omega) (by decide), ?_⟩
  refine am_run hX 3 _ _ _ _ ?_
  conv => whnf
  refine ⟨fun c => absurd c (by decide), fun _ => ?_⟩
  refine am_run hX 8 _ _ _ _ ?_
  conv => whnf
  rw [show (4 : Int32) = nI 4 from rfl, nI_mul, show (3 : Int32) = nI 3 from rfl, nI_add]
  refine ⟨vp_in_nI (by show _ < 256; omega) (by decide), ?_⟩
  refine am_run hX 5 _ _ _ _ ?_
  conv => whnf
  refine ⟨fun c => absurd c (by decide), fun _ => ?_⟩
  refine am_run hX 8 _ _ _ _ ?_
  conv => whnf
  rw [show (4 : Int32) = nI 4 from rfl, nI_mul, show (2 : Int32) = nI 2 from rfl, nI_add]
  refine ⟨vp_in_nI (by show _ < 256; omega) (by decide), ?_⟩
  refine am_run hX 5 _ _ _ _ ?_
  conv => whnf
  refine ⟨fun c => absurd c (by decide), fun _ => ?_⟩
  refine am_run hX 8 _ _ _ _ ?_
  conv => whnf
  rw [show (4 : Int32) = nI 4 from rfl, nI_mul, nI_1]
  refine ⟨vp_in_nI (by show _ < 256; omega) (by decide), ?_⟩
  refine am_run hX 5 _ _ _ _ ?_
  conv => whnf
  rw [nI_clamp (n := 4 * i) (by omega), nI_clamp (n := 4 * i + 1) (by omega), nI_clamp (n := 4 * i + 2) (by omega), nI_clamp (n := 4 * i + 3) (by omega), mm_lne _ 106 107 _ (by decide), x1, x2, x3, x4, lI_neg, lI_neg, lI_neg]
  exact h0 _ _
end CLS
