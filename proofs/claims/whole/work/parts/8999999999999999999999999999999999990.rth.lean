/-! ROUTE: the reference's route whole -/
theorem hcl_p (l k : List bk_X) : hcl (l ++ k) = hcl l + hcl k := by
  induction l with
  | nil => exact (Nat.zero_add _).symm
  | cons x l ih =>
    rw [List.cons_append, hcl_c, hcl_c, ih]
    omega
theorem okL_p {l k : List bk_X} (h : okL (l ++ k)) : okL l := by
  obtain ⟨a, b⟩ := h
  rw [List.length_append] at a
  rw [hcl_p] at b
  exact ⟨by omega, by omega⟩
/-- OPS along a word of LINKS -/
def rtw (W : Nat) (l : List bk_X) (Lk : Nat → Nat → Bool) : List Nat → List Nat × Nat → List bk_X
  | [], _ => []
  | e :: w, k => (8, e / 6, e % 6, 0, 0, 0) :: (sgL W (rtS Lk (rtPp l) l.length e k).1 l k.2 ((rtS Lk (rtPp l) l.length e k).2 - k.2) ++ rtw W l Lk w (rtS Lk (rtPp l) l.length e k))
def rtT (W : Nat) (l : List bk_X) (Lk : Nat → Nat → Bool) (w : List Nat) : List bk_X := sgL W (List.range W) l 0 (rt0 Lk (rtPp l) l.length W).2 ++ rtw W l Lk w (rt0 Lk (rtPp l) l.length W)
section RTW
variable {W : Nat} {l : List bk_X} {Lk : Nat → Nat → Bool}
theorem rtw_a : ∀ (u v : List Nat) (k : List Nat × Nat), rtw W l Lk (u ++ v) k = rtw W l Lk u k ++ rtw W l Lk v (awS (rtS Lk (rtPp l) l.length) u k)
  | [], _, _ => rfl
  | e :: u, v, k => by
    show _ :: (_ ++ rtw W l Lk (u ++ v) (rtS Lk (rtPp l) l.length e k)) = _
    rw [rtw_a u v, ← List.append_assoc]
    rfl
theorem rtT_a (u v : List Nat) : rtT W l Lk (u ++ v) = rtT W l Lk u ++ rtw W l Lk v (awS (rtS Lk (rtPp l) l.length) u (rt0 Lk (rtPp l) l.length W)) := by
  unfold rtT
  rw [rtw_a, List.append_assoc]
theorem rtT_s (u : List Nat) (e : Nat) : rtT W l Lk (u ++ [e]) = rtT W l Lk u ++ [(8, e / 6, e % 6, 0, 0, 0)] ++ sgL W (awS (rtS Lk (rtPp l) l.length) (u ++ [e]) (rt0 Lk (rtPp l) l.length W)).1 l (awS (rtS Lk (rtPp l) l.length) u (rt0 Lk (rtPp l) l.length W)).2 ((awS (rtS Lk (rtPp l) l.length) (u ++ [e]) (rt0 Lk (rtPp l) l.length W)).2 - (awS (rtS Lk (rtPp l) l.length) u (rt0 Lk (rtPp l) l.length W)).2) := by
  rw [rtT_a, aw_a, List.append_assoc]
  show _ ++ ((8, e / 6, e % 6, 0, 0, 0) :: (_ ++ [])) = _
  rw [List.append_nil]
  rfl
end RTW
/-- what route changes -/
def rqF (b : Nat) (M N : mm_M) : Prop := (∀ k, k ≠ 108 → (k < 112 ∨ 117 < k) → (k < 133 ∨ 135 < k) → (k < 196 ∨ 201 < k) → N.1 k = M.1 k) ∧ N.2 = M.2 ∧ (∀ y, y ≠ 36 → y ≠ 37 → y ≠ 38 → y ≠ 146 → N.1 108 y = M.1 108 y) ∧ ∀ k a, 112 ≤ k → k ≤ 117 → a < 300 * b → N.1 k a = M.1 k a
theorem rqF_r (b : Nat) (M : mm_M) : rqF b M M := ⟨fun _ _ _ _ _ => rfl, rfl, fun _ _ _ _ _ => rfl, fun _ _ _ _ _ => rfl⟩
theorem rqF_t {b : Nat} {M N K : mm_M} (h : rqF b M N) (g : rqF b N K) : rqF b M K := ⟨fun k a b c e => (g.1 k a b c e).trans (h.1 k a b c e), g.2.1.trans h.2.1, fun y a b c f => (g.2.2.1 y a b c f).trans (h.2.2.1 y a b c f), fun k a b c e => (g.2.2.2 k a b c e).trans (h.2.2.2 k a b c e)⟩
theorem rqF_w {b : Nat} {M N : mm_M} (h : wfF M N) : rqF b M N := ⟨fun k a _ _ e => h.1 k a e, h.2.1, fun y _ _ _ a => h.2.2 y a, fun k a c e _ => by rw [h.1 k (by omega) (by omega)]⟩
theorem rqF_m {b : Nat} {M N : mm_M} (h : mqF b M N) : rqF b M N := ⟨fun k a c e _ => h.1 k a c e, h.2.1, fun y a c e _ => h.2.2.1 y a c e, h.2.2.2⟩
/-- what it changes with the swaps told -/
def rqG (b : Nat) (M N : mm_M) : Prop := (∀ k, k ≠ 108 → (k < 112 ∨ 117 < k) → (k < 133 ∨ 135 < k) → (k < 196 ∨ 201 < k) → N.1 k = M.1 k) ∧ N.2 = M.2 ∧ (∀ y, y ≠ 36 → y ≠ 37 → y ≠ 38 → y ≠ 139 → y ≠ 146 → N.1 108 y = M.1 108 y) ∧ ∀ k a, 112 ≤ k → k ≤ 117 → a < 300 * b → N.1 k a = M.1 k a
section RTH
variable {d : Nat} {M : mm_M} {b c W : Nat} {l : List bk_X} {Lk : Nat → Nat → Bool}
theorem arr_v (hW : W ≤ 6) : ∀ u : List Nat, alV (rtV Lk) u → arr W (awS (rtS Lk (rtPp l) l.length) u (rt0 Lk (rtPp l) l.length W)).1 := by
  have key : ∀ (u : List Nat) (k : List Nat × Nat), alV (rtV Lk) u → arr W k.1 → arr W (awS (rtS Lk (rtPp l) l.length) u k).1 := by
    intro u
    induction u with
    | nil => exact fun k _ h => h
    | cons e u ih =>
      intro k hu h
      have he := hu e List.mem_cons_self
      exact ih _ (fun x hx => hu x (List.mem_cons_of_mem _ hx)) (arr_s he.1 he.2.1 h)
  exact fun u hu => key u _ hu (arr_0 hW)
/-- all that is known while the WAY is laid -/
def rlI (N : mm_M) (b c W : Nat) (l : List bk_X) (Lk : Nat → Nat → Bool) (r u : List Nat) : Prop := rtH N c W l Lk ∧ N.1 108 6 = nI b ∧ (∀ j, j < r.length → N.1 197 j = nI (r.getD j 0)) ∧ plR N (awS (rtS Lk (rtPp l) l.length) u (rt0 Lk (rtPp l) l.length W)).1 ∧ llw N b (rtT W l Lk u)
set_option maxRecDepth 200000 in
theorem rl_l {P : am_Q} {X : am_X} {r : List Nat} {v2 : Int32} (hX : am_K (d + 5) false nm_X12_route P X) (hb : b < 20) (hc : c < b) (hr : r.length < 46656) (hv : alV (rtV Lk) r) (hP0 : ∀ N, rqF b M N → ¬ okL (rtT W l Lk r.reverse) → P (.inl (some (aI (-1)))) N) (hP1 : ∀ N, rqG b M N → okL (rtT W l Lk r.reverse) → lfn N b (rtT W l Lk r.reverse) → N.1 108 6 = nI b → N.1 108 139 = nI r.length → P (.inl (some (aI (nI b)))) (stM N b 6)) : ∀ (j : Nat) (N : mm_M), j ≤ r.length → rqF b M N → rlI N b c W l Lk r (r.drop j).reverse → X 135 [some (aR 108), some (aI (nI c)), some (aI v2), some (aI (nI r.length)), some (aI (nI (awS (rtS Lk (rtPp l) l.length) (r.drop j).reverse (rt0 Lk (rtPp l) l.length W)).2)), some (aI (nI j + -1))] [] N := by
  -- the end
  have fin : ∀ (u : List Nat) (N : mm_M) (v4 v5 : Option am_V), rqF b M N → N.1 108 6 = nI b → llw N b (rtT W l Lk u) → (okL (rtT W l Lk u) → u = r.reverse) → (¬ okL (rtT W l Lk u) → ¬ okL (rtT W l Lk r.reverse)) → X 208 [some (aR 108), some (aI (nI c)), some (aI v2), some (aI (nI r.length)), v4, v5] [] N := by
    intro u N v4 v5 hF h6 hL h1 h0
    have hf := llw_n hL
    by_cases ok : okL (rtT W l Lk u)
    · have e := h1 ok
      subst e
      refine am_run hX 3 _ _ _ _ ?_
      conv => whnf
      rw [(hf.1 ok).1]
      refine ⟨fun _ => ?_, fun z => absurd rfl z⟩
      refine am_run hX 3 _ _ _ _ ?_
      conv => whnf
      generalize hN1 : mm_i N 108 _ = N1
      have f1 : ∀ k, k ≠ 108 → N1.1 k = N.1 k := fun k hk => by rw [← hN1, mm_ne _ _ _ _ hk]
      have f2 : ∀ y, y ≠ 139 → N1.1 108 y = N.1 108 y := fun y hy => by rw [← hN1, mm_i1, up_ne hy]
      have f3 : N1.1 108 139 = nI r.length := by rw [← hN1, mm_i1]; exact up_at
      refine am_run hX 3 _ _ _ _ ?_
      conv => whnf
      refine am_c1 (ct_set (d := d + 4) (M := N1) (W := 6) (by rw [f2 6 (by decide)]; exact h6) hb) ?_
      refine am_run hX 1 _ _ _ _ ?_
      conv => whnf
      refine ⟨trivial, hP1 N1 ⟨fun k a b c e => (f1 k a).trans (hF.1 k a b c e), by rw [← hN1]; exact hF.2.1, fun y a b c e f => (f2 y e).trans (hF.2.2.1 y a b c f), fun k a c e g => by rw [f1 k (by omega)]; exact hF.2.2.2 k a c e g⟩ ok ?_ (by rw [f2 6 (by decide)]; exact h6) f3⟩
      unfold lfn at hf ⊢
      rw [f2 36 (by decide), f2 38 (by decide), f1 112 (by decide), f1 113 (by decide), f1 114 (by decide), f1 115 (by decide), f1 116 (by decide), f1 117 (by decide)]
      exact hf
    · refine am_run hX 3 _ _ _ _ ?_
      conv => whnf
      rw [hf.2 ok]
      refine ⟨fun z => absurd z (by decide), fun _ => ?_⟩
      refine am_run hX 2 _ _ _ _ ?_
      conv => whnf
      exact ⟨trivial, hP0 N hF (h0 ok)⟩
  intro j
  induction j with
  | zero =>
    intro N hj hF hI
    refine am_run hX 2 _ _ _ _ ?_
    conv => whnf
    refine ⟨fun _ => ?_, fun z => absurd (by decide) z⟩
    exact fin _ N _ _ hF hI.2.1 hI.2.2.2.2 (fun _ => by rw [List.drop_zero]) (fun h => h)
  | succ j ih =>
    intro N hj hF hI
    have jr : j < r.length := hj
    have eu : (r.drop j).reverse = (r.drop (j + 1)).reverse ++ [r.getD j 0] := by
      rw [drp_c jr, List.reverse_cons]
    have ih := ih
    obtain ⟨hH, h6, hp, hpl, hL⟩ := hI
    have hW := hH.2.1.2
    have hu : alV (rtV Lk) (r.drop (j + 1)).reverse := fun g hg => hv g (List.mem_of_mem_drop (List.mem_reverse.mp hg))
    have hval : rtV Lk (r.getD j 0) := by
      rw [List.getD_eq_getElem?_getD, List.getElem?_eq_getElem jr]
      exact hv _ (List.getElem_mem jr)
    have full : ∃ z, rtT W l Lk r.reverse = rtT W l Lk (r.drop (j + 1)).reverse ++ z := by
      refine ⟨rtw W l Lk (r.take (j + 1)).reverse (awS (rtS Lk (rtPp l) l.length) (r.drop (j + 1)).reverse (rt0 Lk (rtPp l) l.length W)), ?_⟩
      rw [← rtT_a, ← List.reverse_append, List.take_append_drop]
    rw [nI_d1]
    refine am_run hX 2 _ _ _ _ ?_
    conv => whnf
    refine ⟨fun z => absurd z (nI_n0 (by omega)), fun _ => ?_⟩
    refine am_run hX 3 _ _ _ _ ?_
    conv => whnf
    by_cases ok : okL (rtT W l Lk (r.drop (j + 1)).reverse)
    · rw [((llw_n hL).1 ok).1]
      refine ⟨fun z => absurd rfl z, fun _ => ?_⟩
      generalize hux : (r.drop (j + 1)).reverse = u at *
      generalize hex : r.getD j 0 = e at *
      obtain ⟨e36, e6, _⟩ := hval
      obtain ⟨t1, t2⟩ := t_q e e36
      have t2 : nI e - nI e / 6 * 6 = nI (e % 6) := by rw [t1]; exact t2
      have ep : N.1 197 j = nI e := by rw [← hex]; exact hp j jr
      have ha := arr_v (l := l) hW u hu
      refine am_run hX 18 _ _ _ _ ?_
      conv => whnf
      refine ⟨vp_in_nI (by show j < 46656; omega) (by decide), ?_⟩
      conv => whnf
      refine ⟨by decide, ?_⟩
      conv => whnf
      refine ⟨vp_in_nI (by show j < 46656; omega) (by decide), ?_⟩
      conv => whnf
      refine ⟨by decide, ?_⟩
      conv => whnf
      rw [nI_clamp (n := j) (by omega), ep, t2, t1]
      have key := ct_layL (d := d + 4) (M := N) (n := b) (l := rtT W l Lk u) (x := (8, e / 6, e % 6, 0, 0, 0)) h6 hb (by show 8 < 16; decide)
      rw [llw_d hL] at key
      refine am_c0 key ?_
      generalize hN1 : llM N b (rtT W l Lk u ++ [(8, e / 6, e % 6, 0, 0, 0)]) = N1
      have m1 : mqF b N N1 := by rw [← hN1]; exact mqF_l _
      have L1 : llw N1 b (rtT W l Lk u ++ [(8, e / 6, e % 6, 0, 0, 0)]) := by rw [← hN1]; exact llw_l N b _
      have hH1 := rtH_m m1 hc hH
      have p1 := mqF_196 m1 hpl
      refine am_run hX 10 _ _ _ _ ?_
      conv => whnf
      refine ⟨vp_in_nI (by show j < 46656; omega) (by decide), ?_⟩
      conv => whnf
      refine ⟨vp_in_nI (by show c < 21; omega) (by decide), ?_⟩
      conv => whnf
      rw [nI_clamp (n := j) (by omega), nI_clamp (n := c) (by omega), m1.1 197 (by decide) (by decide) (by decide), ep, hH1.2.2.2.1]
      refine am_cq (ct_exP (d := d + 4) (M := N1) hW e36 ha p1) ?_
      rintro r2 N2 ⟨rfl, f2, p2⟩
      refine ⟨none, rfl, ?_⟩
      have hH2 := rtH_f (wfF_b f2) hH1
      have L2 : llw N2 b (rtT W l Lk u ++ [(8, e / 6, e % 6, 0, 0, 0)]) := llw_f L1 (f2.1 108 (by decide)) (fun k a c => f2.1 k (by omega))
      have h62 : N2.1 108 6 = nI b := by
        rw [f2.1 108 (by decide), m1.2.2.1 6 (by decide) (by decide) (by decide)]
        exact h6
      have dS := rt_s (Lk := Lk) (O := rtPp l) (S := l.length) u (rt0 Lk (rtPp l) l.length W) (ad_le (Nat.zero_le _))
      have l3 := hH.2.2.1.2.2.1
      refine am_run hX 4 _ _ _ _ ?_
      conv => whnf
      refine am_cq (ct_layD (d := d) (M := N2) hH2 hb hc h62 (arr_s e36 e6 ha) p2 dS L2) ?_
      rintro r3 N3 ⟨rfl, m3, L3⟩
      refine ⟨_, rfl, ?_⟩
      refine am_run hX 3 _ _ _ _ ?_
      conv => whnf
      have es : awS (rtS Lk (rtPp l) l.length) (u ++ [e]) (rt0 Lk (rtPp l) l.length W) = rtS Lk (rtPp l) l.length e (awS (rtS Lk (rtPp l) l.length) u (rt0 Lk (rtPp l) l.length W)) := by
        rw [aw_a]
        rfl
      have hI3 : rlI N3 b c W l Lk r (u ++ [e]) := by
        refine ⟨rtH_m m3 hc hH2, by rw [m3.2.2.1 6 (by decide) (by decide) (by decide)]; exact h62, fun i hi => ?_, ?_, ?_⟩
        · rw [m3.1 197 (by decide) (by decide) (by decide), f2.1 197 (by decide), m1.1 197 (by decide) (by decide) (by decide)]
          exact hp i hi
        · rw [es]
          exact mqF_196 m3 p2
        · rw [rtT_s, es]
          exact L3
      have := ih N3 (by omega) (rqF_t hF (rqF_t (rqF_m m1) (rqF_t (rqF_w (wfF_b f2)) (rqF_m m3)))) (by rw [eu]; exact hI3)
      rw [eu, es] at this
      exact this
    · rw [(llw_n hL).2 ok]
      refine ⟨fun _ => ?_, fun z => absurd (by decide) z⟩
      refine fin _ N _ _ hF h6 hL (fun h => absurd h ok) (fun _ h => ?_)
      obtain ⟨z, ez⟩ := full
      rw [ez] at h
      exact ok (okL_p h)
end RTH
