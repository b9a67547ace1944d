/-! FORM: the reference takes syllables off -/
def lvb (w : List Nat) (b : Nat) : Prop := ∃ m A, m ≤ b ∧ lv w m A
theorem lvb_w {w : List Nat} {b c : Nat} (h : lvb w b) (hb : b ≤ c) : lvb w c := by
  obtain ⟨m, A, a, l⟩ := h
  exact ⟨m, A, by omega, l⟩
theorem lvb_3 {w : List Nat} {b : Nat} (h : lvb w b) : lvb (3 :: w) b := by
  obtain ⟨m, A, a, l⟩ := h
  exact ⟨m, _, a, lv_3 l⟩
theorem lvb_6 {w : List Nat} {b : Nat} (h : lvb w b) : lvb (6 :: w) b := by
  obtain ⟨m, A, a, l⟩ := h
  exact ⟨m, _, a, lv_6 l⟩
theorem lvb_7 {w : List Nat} {b : Nat} (h : lvb w b) : lvb (7 :: w) (b + 1) := by
  obtain ⟨m, A, a, l⟩ := h
  exact ⟨m + 1, _, by omega, lv_7 l⟩
theorem p2_m {a b : Nat} (h : a ≤ b) : (2 : Int) ^ a ≤ 2 ^ b := by
  have : (2 : Nat) ^ a ≤ 2 ^ b := Nat.pow_le_pow_right (by decide) h
  have e : ((2 ^ a : Nat) : Int) ≤ ((2 ^ b : Nat) : Int) := Int.ofNat_le.mpr this
  rw [Int.natCast_pow, Int.natCast_pow] at e
  exact e
/-- a small matrix -/
theorem smal_b {w : List Nat} (h : lvb w 70) : ∃ L x y, L ≤ 40 ∧ smR w L x y ∧ smN (2 ^ 40) x y := by
  obtain ⟨m, A, a, l⟩ := h
  obtain ⟨x, y, s⟩ := sm_w l
  have p := p2_m (show (m + 3) / 2 ≤ 40 by omega)
  obtain ⟨n1, n2, n3, n4⟩ := s.2.2.1
  exact ⟨_, x, y, by omega, s, by omega, by omega, by omega, by omega⟩
theorem mx_sm {f : Nat → Int64} {a L : Nat} {w : List Nat} {x y : R2} (s : smR w L x y) : mxW f a w ↔ mxE f a L x y := by
  obtain ⟨_, _, _, r1, r2, r3, r4⟩ := s
  unfold mxW mxE a5
  rw [r1, r2, r3, r4]
theorem gv_sm {K L g : Nat} {p p' : R2} (h : prn K p' = prn L p) : red (L + hk g) (gv g p').1 = red (K + hk g) (gv g p).1 ∧ red (L + hk g) (gv g p').2 = red (K + hk g) (gv g p).2 := by
  have e : prn (K + hk g) (gv g p') = prn (L + hk g) (gv g p) := by
    rw [Nat.add_comm K, Nat.add_comm L, ← prn_a, ← prn_a, ← gv_rn, h, gv_rn]
  exact ⟨red_u (congrArg Prod.fst e), red_u (congrArg Prod.snd e)⟩
def tofF (M N : mm_M) : Prop := (∀ k, k ≠ 108 → k ≠ 189 → N.1 k = M.1 k) ∧ (∀ y, y ≠ 129 → y ≠ 130 → N.1 108 y = M.1 108 y) ∧ ∀ k, k ≠ 118 → k ≠ 119 → k ≠ 152 → k ≠ 153 → (k < 186 ∨ 188 < k) → N.2 k = M.2 k
theorem tofF_r (M : mm_M) : tofF M M := ⟨fun _ _ _ => rfl, fun _ _ _ => rfl, fun _ _ _ _ _ _ => rfl⟩
theorem tofF_t {M N K : mm_M} (h : tofF M N) (g : tofF N K) : tofF M K := ⟨fun k a b => (g.1 k a b).trans (h.1 k a b), fun y a b => (g.2.1 y a b).trans (h.2.1 y a b), fun k a b c e f => (g.2.2 k a b c e f).trans (h.2.2 k a b c e f)⟩
theorem tofF_k {M N : mm_M} {c : Nat} (hc : 186 ≤ c ∧ c ≤ 188) (h : k1F c M N) : tofF M N := ⟨fun k _ _ => by rw [h.1], fun y _ _ => by rw [h.1], fun k _ _ _ _ a => h.2 k (by omega)⟩
theorem tofF_l {M N : mm_M} {c : Nat} (hc : 186 ≤ c ∧ c ≤ 188) (h : lfF c M N) : tofF M N := ⟨fun k _ _ => by rw [h.1], fun y _ _ => by rw [h.1], fun k a b e _ g => h.2 k a b e (by omega)⟩
theorem tofF_n {M N : mm_M} (h : ndF M N) : tofF M N := ⟨fun k _ _ => by rw [h.1], fun y _ _ => by rw [h.1], fun k a b _ e g => h.2 k a b e (by omega)⟩
theorem tofF_o {M N : mm_M} (h : opF 118 M N) : tofF M N := ⟨fun k _ _ => by rw [h.1], fun y _ _ => by rw [h.1], fun k a b _ _ _ => h.2 k a b a⟩
/-- the letters so far -/
def frmL (N : mm_M) (L : List Nat) : Prop := N.1 108 129 = nI L.length ∧ ∀ j, j < L.length → N.1 189 j = nI (L.getD j 0)
theorem frmL_f {M N : mm_M} {L : List Nat} (e : N.1 = M.1) (h : frmL M L) : frmL N L := by
  unfold frmL at h ⊢
  rw [e]
  exact h
def chr3 (g : Nat) : Nat := if g = 3 then 104 else if g = 4 then 115 else 116
section FMM
variable {d : Nat} {M : mm_M}
theorem ct_lWs {w : List Nat} {g : Nat} (hg : g < 8) (hw : lvb w 70) (h : mxW (M.2 187) 0 w) : am_M (d + 3) false nm_X12_left [aR 108, aR 187, aI 0, aI (nI g)] M (fun r N => r = .inl none ∧ lfF 187 M N ∧ mxW (N.2 187) 0 (g :: w)) := by
  obtain ⟨L, x, y, L40, s, n1, n2, n3, n4⟩ := smal_b hw
  have p : (2 : Int) ^ 40 ≤ 2 ^ 120 := by decide
  refine am_wk (ct_left187 (d := d) (M := M) (K := L) (x := x) (y := y) hg (by omega) (by omega) (by omega) (by omega) (by omega) ((mx_sm s).mp h)) fun r N q => ⟨q.1, q.2.1, ?_⟩
  obtain ⟨h0, h1⟩ := s
  have a1 : rn (wk w) x.1 = rn L (wv w e0).1 := congrArg Prod.fst h0
  have a2 : rn (wk w) x.2 = rn L (wv w e1).1 := congrArg Prod.snd h0
  have b1 : rn (wk w) y.1 = rn L (wv w e0).2 := congrArg Prod.fst h1.1
  have b2 : rn (wk w) y.2 = rn L (wv w e1).2 := congrArg Prod.snd h1.1
  have e0 : prn (wk w) (x.1, y.1) = prn L (wv w e0) := Prod.ext a1 b1
  have e1 : prn (wk w) (x.2, y.2) = prn L (wv w e1) := Prod.ext a2 b2
  obtain ⟨g1, g2⟩ := gv_sm (g := g) e0
  obtain ⟨g3, g4⟩ := gv_sm (g := g) e1
  have z := q.2.2
  unfold mxE a5 at z
  unfold mxW mxE a5
  rw [g1, g2, g3, g4] at z
  exact z
theorem ct_ndW186 {w : List Nat} (hw : lvb w 70) (h : mxW (M.2 186) 0 w) : am_M (d + 4) false nm_X12_needOf [aR 108, aR 186, aI 0] M (fun r N => r = .inl (some (aJ (lI (ndM (wk w) (rw0 w) (rw1 w) : Nat)))) ∧ ndF M N) := by
  obtain ⟨L, x, y, L40, s, n⟩ := smal_b hw
  refine am_wk (ct_need186 (d := d) (M := M) (K := L) (x := x) (y := y) (by omega) ((mx_sm s).mp h) n) fun r N q => ⟨?_, q.2⟩
  rw [q.1, nd_sm s.1 s.2.1]
theorem ct_ndW187 {w : List Nat} (hw : lvb w 70) (h : mxW (M.2 187) 0 w) : am_M (d + 4) false nm_X12_needOf [aR 108, aR 187, aI 0] M (fun r N => r = .inl (some (aJ (lI (ndM (wk w) (rw0 w) (rw1 w) : Nat)))) ∧ ndF M N) := by
  obtain ⟨L, x, y, L40, s, n⟩ := smal_b hw
  refine am_wk (ct_need187 (d := d) (M := M) (K := L) (x := x) (y := y) (by omega) ((mx_sm s).mp h) n) fun r N q => ⟨?_, q.2⟩
  rw [q.1, nd_sm s.1 s.2.1]
set_option maxRecDepth 100000 in
theorem ct_let {L : List Nat} {c : Nat} {v : Int32} (hv : v = nI c) (hL : L.length < 1300) (h : frmL M L) : am_M (d + 1) false nm_X12_letter0 [aR 108, aI v] M (fun r N => r = .inl none ∧ tofF M N ∧ frmL N (L ++ [c]) ∧ N.2 = M.2 ∧ N.1 108 130 = M.1 108 130) := by
  refine ⟨rfl, rfl, rfl, fun X hX => am_run hX 6 _ _ _ _ ?_⟩
  conv => whnf
  rw [h.1]
  refine ⟨vp_in_nI (by show _ < 1300; omega) (by decide), ?_⟩
  rw [nI_clamp (n := L.length) (by omega)]
  generalize hN1 : mm_i M 189 _ = N1
  have g1 : ∀ k, k ≠ 189 → N1.1 k = M.1 k := fun k hk => by rw [← hN1, mm_ne _ _ _ _ hk]
  have g2 : N1.1 189 = upd (M.1 189) L.length v := by rw [← hN1, mm_i1]
  have g3 : N1.2 = M.2 := by rw [← hN1]; rfl
  refine am_run hX 7 _ _ _ _ ?_
  conv => whnf
  rw [g1 108 (by decide), h.1, nI_1]
  generalize hN2 : mm_i N1 108 _ = N2
  have h1 : ∀ k, k ≠ 108 → N2.1 k = N1.1 k := fun k hk => by rw [← hN2, mm_ne _ _ _ _ hk]
  have h2 : N2.1 108 = upd (M.1 108) 129 (nI (L.length + 1)) := by rw [← hN2, mm_i1]
  have h3 : N2.2 = N1.2 := by rw [← hN2]; rfl
  refine ⟨trivial, rfl, ⟨fun k a b => by rw [h1 k a, g1 k b], fun y a _ => by rw [h2, up_ne a], fun k _ _ _ _ _ => by rw [h3, g3]⟩, ⟨?_, ?_⟩, by rw [h3, g3], by rw [h2, up_ne (by decide)]⟩
  · rw [h2, up_at, List.length_append]
    rfl
  · rw [h1 189 (by decide), g2]
    exact gd_u h.2 rfl hv
/-- what is taken off -/
def tkL (how : Nat) : List Nat := (sy how).map chr3
set_option maxRecDepth 200000 in
theorem ct_tkOff {how m : Nat} {w L : List Nat} {ts : Nat} (hh : how < 3) (hm : 1 ≤ m ∧ m ≤ 70) (hw : lvb w 69) (hL : L.length ≤ 1290) (hts : ts ≤ 1000) (h : mxW (M.2 186) 0 w) (hf : frmL M L) (ht : M.1 108 130 = nI ts) : am_M (d + 5) false nm_X12_takesOff [aR 108, aI (nI how), aJ (lI (m : Nat))] M (fun r N => tofF M N ∧ ((ndM (wk (tkW how ++ w)) (rw0 (tkW how ++ w)) (rw1 (tkW how ++ w)) = m - 1 ∧ r = .inl (some (aI 1)) ∧ mxW (N.2 186) 0 (tkW how ++ w) ∧ frmL N (L ++ tkL how) ∧ N.1 108 130 = nI (ts + 1)) ∨ (ndM (wk (tkW how ++ w)) (rw0 (tkW how ++ w)) (rw1 (tkW how ++ w)) ≠ m - 1 ∧ r = .inl (some (aI 0)) ∧ mxW (N.2 186) 0 w ∧ frmL N L ∧ N.1 108 130 = nI ts))) := by
  have e1 : (lI (m : Nat)) - 1 = lI ((m - 1 : Nat)) := by
    rw [show (1 : Int64) = lI 1 from rfl, lI_sub]
    congr 1
    omega
  have nb : ndM (wk (tkW how ++ w)) (rw0 (tkW how ++ w)) (rw1 (tkW how ++ w)) ≤ 10 ^ 6 ∨ True := Or.inr trivial
  refine ⟨rfl, rfl, rfl, fun X hX => am_run hX 8 _ _ _ _ ?_⟩
  conv => whnf
  refine am_cq (ct_cp186_187 (d := d + 3) (M := M) (a := 0) (by decide) h) ?_
  rintro r1 N1 ⟨rfl, f1, o1, _⟩
  refine ⟨none, rfl, ?_⟩
  have t1 : tofF M N1 := tofF_k (by decide) f1
  -- the end: T back, and what is wanted then
  have fin : ∀ (N : mm_M) (u : List Nat), tofF M N → N.1 = M.1 → N.2 186 = M.2 186 → lvb u 69 → mxW (N.2 187) 0 u → 7 :: u = tkW how ++ w → X 44 [some (aR 108), some (aI (nI how)), some (aJ (lI (m : Nat))), none] [] N := by
    intro N u tF e186 e2 lu hu eu
    refine am_run hX 6 _ _ _ _ ?_
    conv => whnf
    refine am_cq (ct_lWs (d := d + 1) (g := 7) (by decide) (lvb_w lu (by decide)) hu) ?_
    rintro r2 N2 ⟨rfl, f2, o2⟩
    refine ⟨none, rfl, ?_⟩
    have l7 : lvb (tkW how ++ w) 70 := by rw [← eu]; exact lvb_7 lu
    rw [eu] at o2
    refine am_run hX 5 _ _ _ _ ?_
    conv => whnf
    refine am_cq (ct_ndW187 (d := d) l7 o2) ?_
    rintro r3 N3 ⟨rfl, f3⟩
    refine ⟨_, rfl, ?_⟩
    have T3 : tofF M N3 := tofF_t tF (tofF_t (tofF_l (by decide) f2) (tofF_n f3))
    have E3 : N3.1 = M.1 := by rw [f3.1, f2.1, e186]
    have M3 : N3.2 186 = M.2 186 := by rw [f3.2 186 (by decide) (by decide) (by decide) (by decide), f2.2 186 (by decide) (by decide) (by decide) (by decide), e2]
    have O3 : mxW (N3.2 187) 0 (tkW how ++ w) := by rw [f3.2 187 (by decide) (by decide) (by decide) (by decide)]; exact o2
    have nd70 : ndM (wk (tkW how ++ w)) (rw0 (tkW how ++ w)) (rw1 (tkW how ++ w)) ≤ 100 := by
      obtain ⟨L', x, y, L40, s, _⟩ := smal_b l7
      rw [← nd_sm s.1 s.2.1]
      have b1 := red_k (2 * L') (bZ 1 x)
      have b2 := red_k (2 * L') (bZ 2 x)
      have b3 := red_k (2 * L') (bZ 3 x)
      have c1 := red_k (2 * L' + 2) (bX 1 x y)
      have c2 := red_k (2 * L' + 2) (bX 2 x y)
      have c3 := red_k (2 * L' + 2) (bX 3 x y)
      have g1 := red_k (2 * L' + 2) (bY 1 x y)
      have g2 := red_k (2 * L' + 2) (bY 2 x y)
      have g3 := red_k (2 * L' + 2) (bY 3 x y)
      unfold ndM ndP1
      omega
    refine am_run hX 5 _ _ _ _ ?_
    conv => whnf
    rw [e1, lg_0, lI_eq (by omega) (by omega) (by omega) (by omega)]
    refine ⟨fun z => ?_, fun z => ?_⟩
    · have z : ndM (wk (tkW how ++ w)) (rw0 (tkW how ++ w)) (rw1 (tkW how ++ w)) = m - 1 := by omega
      refine am_run hX 8 _ _ _ _ ?_
      conv => whnf
      refine am_cq (ct_cp187_186 (d := d + 3) (M := N3) (a := 0) (by decide) O3) ?_
      rintro r4 N4 ⟨rfl, f4, o4, _⟩
      refine ⟨none, rfl, ?_⟩
      have T4 : tofF M N4 := tofF_t T3 (tofF_k (by decide) f4)
      have E4 : N4.1 = M.1 := by rw [f4.1, E3]
      have F4 : frmL N4 L := frmL_f E4 hf
      -- t is written, and one more is counted
      have last : ∀ (N : mm_M) (L' : List Nat), tofF M N → N.2 = N4.2 → N.1 108 130 = nI ts → frmL N L' → L'.length < 1300 → L' ++ [116] = L ++ tkL how → X 108 [some (aR 108), some (aI (nI how)), some (aJ (lI (m : Nat))), none] [] N := by
        intro N L' tN e2' e130 fN lN eL
        refine am_run hX 3 _ _ _ _ ?_
        conv => whnf
        refine am_cq (ct_let (d := d + 3) (M := N) (c := 116) rfl lN fN) ?_
        rintro r5 N5 ⟨rfl, t5, o5, s5, u5⟩
        refine ⟨none, rfl, ?_⟩
        refine am_run hX 6 _ _ _ _ ?_
        conv => whnf
        rw [u5, e130, nI_1]
        generalize hN6 : mm_i N5 108 _ = N6
        have h1 : ∀ k, k ≠ 108 → N6.1 k = N5.1 k := fun k hk => by rw [← hN6, mm_ne _ _ _ _ hk]
        have h2 : N6.1 108 = upd (N5.1 108) 130 (nI (ts + 1)) := by rw [← hN6, mm_i1]
        have h3 : N6.2 = N5.2 := by rw [← hN6]; rfl
        refine am_run hX 2 _ _ _ _ ?_
        conv => whnf
        refine ⟨rfl, tofF_t (tofF_t tN t5) ⟨fun k a _ => h1 k a, fun y _ b => by rw [h2, up_ne b], fun k _ _ _ _ _ => by rw [h3]⟩, Or.inl ⟨z, rfl, ?_, ⟨?_, ?_⟩, by rw [h2]; exact up_at⟩⟩
        · rw [h3, s5, e2']
          exact o4
        · rw [← eL, h2, up_ne (by decide)]
          exact o5.1
        · rw [← eL, h1 189 (by decide)]
          exact o5.2
      have : how = 0 ∨ how = 1 ∨ how = 2 := by omega
      rcases this with rfl | rfl | rfl
      · refine am_run hX 3 _ _ _ _ ?_
        conv => whnf
        refine ⟨fun _ => ?_, fun z => absurd (by decide) z⟩
        refine am_run hX 2 _ _ _ _ ?_
        conv => whnf
        refine ⟨fun _ => ?_, fun z => absurd (by decide) z⟩
        exact last N4 L T4 rfl (by rw [E4]; exact ht) F4 (by omega) rfl
      · refine am_run hX 3 _ _ _ _ ?_
        conv => whnf
        refine ⟨fun _ => ?_, fun z => absurd (by decide) z⟩
        refine am_run hX 2 _ _ _ _ ?_
        conv => whnf
        refine ⟨fun z => absurd z (by decide), fun _ => ?_⟩
        refine am_run hX 3 _ _ _ _ ?_
        conv => whnf
        refine am_cq (ct_let (d := d + 3) (M := N4) (c := 104) rfl (by omega) F4) ?_
        rintro r5 N5 ⟨rfl, t5, o5, s5, u5⟩
        refine ⟨none, rfl, ?_⟩
        exact last N5 (L ++ [104]) (tofF_t T4 t5) s5 (by rw [u5, E4]; exact ht) o5 (by rw [List.length_append]; exact Nat.lt_of_le_of_lt (Nat.add_le_add_right hL 1) (by decide)) (by rw [List.append_assoc]; rfl)
      · refine am_run hX 3 _ _ _ _ ?_
        conv => whnf
        refine ⟨fun z => absurd rfl z, fun _ => ?_⟩
        refine am_run hX 3 _ _ _ _ ?_
        conv => whnf
        refine am_cq (ct_let (d := d + 3) (M := N4) (c := 115) rfl (by omega) F4) ?_
        rintro r5 N5 ⟨rfl, t5, o5, s5, u5⟩
        refine ⟨none, rfl, ?_⟩
        refine am_run hX 2 _ _ _ _ ?_
        conv => whnf
        refine ⟨fun z => absurd z (by decide), fun _ => ?_⟩
        refine am_run hX 3 _ _ _ _ ?_
        conv => whnf
        refine am_cq (ct_let (d := d + 3) (M := N5) (c := 104) rfl (by rw [List.length_append]; exact Nat.lt_of_le_of_lt (Nat.add_le_add_right hL 1) (by decide)) o5) ?_
        rintro r6 N6 ⟨rfl, t6, o6, s6, u6⟩
        refine ⟨none, rfl, ?_⟩
        exact last N6 (L ++ [115] ++ [104]) (tofF_t T4 (tofF_t t5 t6)) (s6.trans s5) (by rw [u6, u5, E4]; exact ht) o6 (by rw [List.length_append, List.length_append]; exact Nat.lt_of_le_of_lt (Nat.add_le_add_right (Nat.add_le_add_right hL 1) 1) (by decide)) (by rw [List.append_assoc, List.append_assoc]; rfl)
    · refine am_run hX 2 _ _ _ _ ?_
      conv => whnf
      exact ⟨rfl, T3, Or.inr ⟨fun q => z (by omega), rfl, by rw [M3]; exact h, frmL_f E3 hf, by rw [E3]; exact ht⟩⟩
  have E1 : N1.1 = M.1 := f1.1
  have M1 : N1.2 186 = M.2 186 := f1.2 186 (by decide)
  have : how = 0 ∨ how = 1 ∨ how = 2 := by omega
  rcases this with rfl | rfl | rfl
  · refine am_run hX 3 _ _ _ _ ?_
    conv => whnf
    refine ⟨fun _ => ?_, fun z => absurd (by decide) z⟩
    refine am_run hX 2 _ _ _ _ ?_
    conv => whnf
    refine ⟨fun _ => ?_, fun z => absurd (by decide) z⟩
    exact fin N1 w t1 E1 M1 hw o1 rfl
  · refine am_run hX 3 _ _ _ _ ?_
    conv => whnf
    refine ⟨fun _ => ?_, fun z => absurd (by decide) z⟩
    refine am_run hX 2 _ _ _ _ ?_
    conv => whnf
    refine ⟨fun z => absurd z (by decide), fun _ => ?_⟩
    refine am_run hX 6 _ _ _ _ ?_
    conv => whnf
    refine am_cq (ct_lWs (d := d + 1) (g := 3) (by decide) (lvb_w hw (by decide)) o1) ?_
    rintro r2 N2 ⟨rfl, f2, o2⟩
    refine ⟨none, rfl, ?_⟩
    exact fin N2 (3 :: w) (tofF_t t1 (tofF_l (by decide) f2)) (by rw [f2.1, E1]) (by rw [f2.2 186 (by decide) (by decide) (by decide) (by decide), M1]) (lvb_3 hw) o2 rfl
  · refine am_run hX 3 _ _ _ _ ?_
    conv => whnf
    refine ⟨fun z => absurd rfl z, fun _ => ?_⟩
    refine am_run hX 6 _ _ _ _ ?_
    conv => whnf
    refine am_cq (ct_lWs (d := d + 1) (g := 6) (by decide) (lvb_w hw (by decide)) o1) ?_
    rintro r2 N2 ⟨rfl, f2, o2⟩
    refine ⟨none, rfl, ?_⟩
    refine am_run hX 2 _ _ _ _ ?_
    conv => whnf
    refine ⟨fun z => absurd z (by decide), fun _ => ?_⟩
    refine am_run hX 6 _ _ _ _ ?_
    conv => whnf
    refine am_cq (ct_lWs (d := d + 1) (g := 3) (by decide) (lvb_w (lvb_6 hw) (by decide)) o2) ?_
    rintro r3 N3 ⟨rfl, f3, o3⟩
    refine ⟨none, rfl, ?_⟩
    exact fin N3 (3 :: 6 :: w) (tofF_t t1 (tofF_t (tofF_l (by decide) f2) (tofF_l (by decide) f3))) (by rw [f3.1, f2.1, E1]) (by rw [f3.2 186 (by decide) (by decide) (by decide) (by decide), f2.2 186 (by decide) (by decide) (by decide) (by decide), M1]) (lvb_3 (lvb_6 hw)) o3 rfl
end FMM
