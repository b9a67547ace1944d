/-! FORM: the reference finds its Cliffords -/
def fcF (M N : mm_M) : Prop := (∀ k, k ≠ 108 → k ≠ 191 → k ≠ 192 → N.1 k = M.1 k) ∧ (∀ y, y ≠ 131 → N.1 108 y = M.1 108 y) ∧ ∀ k, k ≠ 118 → k ≠ 119 → k ≠ 152 → k ≠ 187 → k ≠ 190 → N.2 k = M.2 k
theorem fcF_r (M : mm_M) : fcF M M := ⟨fun _ _ _ _ => rfl, fun _ _ => rfl, fun _ _ _ _ _ _ => rfl⟩
theorem fcF_t {M N K : mm_M} (h : fcF M N) (g : fcF N K) : fcF M K := ⟨fun k a b c => (g.1 k a b c).trans (h.1 k a b c), fun y a => (g.2.1 y a).trans (h.2.1 y a), fun k a b c e f => (g.2.2 k a b c e f).trans (h.2.2 k a b c e f)⟩
theorem fcF_l {M N : mm_M} (h : lfF 187 M N) : fcF M N := ⟨fun k _ _ _ => by rw [h.1], fun y _ => by rw [h.1], fun k a b c e _ => h.2 k a b c e⟩
theorem fcF_o {M N : mm_M} (h : opF 118 M N) : fcF M N := ⟨fun k _ _ _ => by rw [h.1], fun y _ => by rw [h.1], fun k a b _ _ _ => h.2 k a b a⟩
theorem kwA_f {M N : mm_M} {q : Nat} (e1 : N.1 191 = M.1 191) (e2 : N.1 192 = M.1 192) (e3 : N.2 190 = M.2 190) (h : kwA M q) : kwA N q := by
  unfold kwA at h ⊢
  rw [e1, e2, e3]
  exact h
section FML
variable {d : Nat} {M : mm_M}
set_option maxRecDepth 100000 in
theorem fc_k {P : am_Q} {X : am_X} {n i l : Nat} {w : List Nat} (hX : am_K (d + 2) false nm_X12_findCliffords P X) (n24 : n ≤ 24) (hw : wk w ≤ 120) (hN : M.1 108 131 = nI n) (hA : ∀ q, q < n → kwA M q) (hW : mxW (M.2 187) 0 w) (hE : ∀ N, opF 118 M N → X 103 [some (aR 108), some (aI (nI i)), some (aI (nI l)), some (aI (b01 (anN (fun q => lkW w (kw q)) n))), some (aI (nI n))] [] N) : ∀ (m k : Nat) (N : mm_M), k + m = n → opF 118 M N → X 57 [some (aR 108), some (aI (nI i)), some (aI (nI l)), some (aI (b01 (anN (fun q => lkW w (kw q)) k))), some (aI (nI k))] [] N := by
  intro m
  induction m with
  | zero =>
    intro k N hk hF
    obtain rfl : k = n := by omega
    refine am_run hX 4 _ _ _ _ ?_
    conv => whnf
    rw [hF.1, hN]
    exact ⟨fun _ => hE N hF, fun z => absurd (nI_le (Nat.le_refl _) (by omega)) z⟩
  | succ m ih =>
    intro k N hk hF
    have kn : k < n := by omega
    have ih := ih (k + 1)
    simp only [anN] at ih
    refine am_run hX 4 _ _ _ _ ?_
    conv => whnf
    rw [hF.1, hN]
    refine ⟨fun z => absurd z (nI_ge (by omega) (by omega)), fun _ => ?_⟩
    cases hc : anN (fun q => lkW w (kw q)) k with
    | true =>
      refine am_run hX 2 _ _ _ _ ?_
      conv => whnf
      refine ⟨fun _ => ?_, fun z => absurd (by decide) z⟩
      refine am_run hX 2 _ _ _ _ ?_
      conv => whnf
      refine am_run hX 3 _ _ _ _ ?_
      conv => whnf
      rw [nI_1]
      have ih := ih N (by omega) hF
      rw [hc, Bool.true_or] at ih
      exact ih
    | false =>
      refine am_run hX 2 _ _ _ _ ?_
      conv => whnf
      refine ⟨fun z => absurd rfl z, fun _ => ?_⟩
      obtain ⟨k1, k2, _⟩ := kw_f k (by omega)
      have e1 : 20 * nI k = nI (20 * k) := by rw [show (20 : Int32) = nI 20 from rfl, nI_mul]
      refine am_run hX 10 _ _ _ _ ?_
      conv => whnf
      rw [e1]
      refine am_cq (ct_lk187 (d := d) (M := N) (a := 20 * k) (K := wk w) (L := wk (kw k)) (x := rw0 w) (y := rw1 w) (x' := rw0 (kw k)) (y' := rw1 (kw k)) (by omega) (by omega) (by omega) (by rw [hF.2 187 (by decide) (by decide) (by decide)]; exact hW) (by rw [hF.2 190 (by decide) (by decide) (by decide)]; exact (hA k kn).2.2) (bd_w hw) (bd_w (by omega))) ?_
      rintro r1 N1 ⟨f1, ⟨rfl, p, hp, hq⟩ | ⟨rfl, hq⟩⟩
      · have e : lkW w (kw k) = true := (an_iff 8).mpr ⟨p, hp, hq⟩
        refine ⟨_, rfl, ?_⟩
        refine am_run hX 1 _ _ _ _ ?_
        conv => whnf
        refine ⟨fun z => absurd z (by decide), fun _ => ?_⟩
        refine am_run hX 2 _ _ _ _ ?_
        conv => whnf
        refine am_run hX 3 _ _ _ _ ?_
        conv => whnf
        rw [nI_1]
        have ih := ih N1 (by omega) (opF_t hF f1)
        rw [e, Bool.or_true] at ih
        exact ih
      · have e : lkW w (kw k) = false := by
          cases hz : lkW w (kw k) with
          | false => rfl
          | true =>
            obtain ⟨p, hp, h2⟩ := (an_iff 8).mp hz
            rw [hq p hp] at h2
            exact absurd h2 (by decide)
        refine ⟨_, rfl, ?_⟩
        refine am_run hX 1 _ _ _ _ ?_
        conv => whnf
        refine ⟨fun _ => ?_, fun z => absurd rfl z⟩
        refine am_run hX 1 _ _ _ _ ?_
        conv => whnf
        refine am_run hX 3 _ _ _ _ ?_
        conv => whnf
        rw [nI_1]
        have ih := ih N1 (by omega) (opF_t hF f1)
        rw [hc, e, Bool.false_or] at ih
        exact ih
set_option maxRecDepth 100000 in
theorem fc_c {P : am_Q} {X : am_X} {n i l len : Nat} {v3 : Int32} {f : Nat → Int32} (hX : am_K d false nm_X12_findCliffords P X) (n24 : n < 24) (hi : i < n) (hN : M.1 108 131 = nI n) (hl : M.1 192 i = nI len) (len6 : len ≤ 6) (hf : M.1 191 = f) (hE : X 177 [some (aR 108), some (aI (nI i)), some (aI (nI l)), some (aI v3), some (aI (nI len))] [] (mm_i M 191 (fun j => if 20 * n ≤ j ∧ j < 20 * n + len then f (20 * i + (j - 20 * n)) else f j))) : ∀ (m k : Nat), k + m = len → X 133 [some (aR 108), some (aI (nI i)), some (aI (nI l)), some (aI v3), some (aI (nI k))] [] (mm_i M 191 (fun j => if 20 * n ≤ j ∧ j < 20 * n + k then f (20 * i + (j - 20 * n)) else f j)) := by
  have g : ∀ F : Nat → Int32, (mm_i M 191 F).1 192 i = nI len ∧ (mm_i M 191 F).1 108 131 = nI n := fun F => by
    rw [mm_ne _ _ _ _ (by decide), mm_ne _ _ _ _ (by decide)]
    exact ⟨hl, hN⟩
  intro m
  induction m with
  | zero =>
    intro k hk
    obtain rfl : k = len := by omega
    refine am_run hX 6 _ _ _ _ ?_
    conv => whnf
    refine ⟨vp_in_nI (by show i < 24; omega) (by decide), ?_⟩
    conv => whnf
    rw [nI_clamp (n := i) (by omega), (g _).1]
    exact ⟨fun _ => hE, fun z => absurd (nI_le (Nat.le_refl _) (by omega)) z⟩
  | succ m ih =>
    intro k hk
    have e1 : 20 * nI n + nI k = nI (20 * n + k) := by rw [show (20 : Int32) = nI 20 from rfl, nI_mul, nI_add]
    have e2 : 20 * nI i + nI k = nI (20 * i + k) := by rw [show (20 : Int32) = nI 20 from rfl, nI_mul, nI_add]
    refine am_run hX 6 _ _ _ _ ?_
    conv => whnf
    refine ⟨vp_in_nI (by show i < 24; omega) (by decide), ?_⟩
    conv => whnf
    rw [nI_clamp (n := i) (by omega), (g _).1]
    refine ⟨fun z => absurd z (nI_ge (by omega) (by omega)), fun _ => ?_⟩
    refine am_run hX 17 _ _ _ _ ?_
    conv => whnf
    rw [(g _).2, e1, e2]
    refine ⟨vp_in_nI (by show _ < 480; omega) (by decide), ?_⟩
    conv => whnf
    refine ⟨vp_in_nI (by show _ < 480; omega) (by decide), ?_⟩
    rw [nI_clamp (n := 20 * i + k) (by omega), nI_clamp (n := 20 * n + k) (by omega), mm_i1, mm_ii]
    have e : upd (fun j => if 20 * n ≤ j ∧ j < 20 * n + k then f (20 * i + (j - 20 * n)) else f j) (20 * n + k) ((fun j => if 20 * n ≤ j ∧ j < 20 * n + k then f (20 * i + (j - 20 * n)) else f j) (20 * i + k)) = fun j => if 20 * n ≤ j ∧ j < 20 * n + (k + 1) then f (20 * i + (j - 20 * n)) else f j := by
      funext j
      unfold upd
      by_cases h : j = 20 * n + k
      · rw [if_pos h]
        dsimp only
        rw [if_neg (by omega), if_pos (by omega), h, Nat.add_sub_cancel_left]
      · rw [if_neg h]
        dsimp only
        by_cases h2 : 20 * n ≤ j ∧ j < 20 * n + k
        · rw [if_pos h2, if_pos (by omega)]
        · rw [if_neg h2, if_neg (by omega)]
    rw [e]
    refine am_run hX 2 _ _ _ _ ?_
    conv => whnf
    rw [nI_1]
    exact ih (k + 1) (by omega)
set_option maxRecDepth 200000 in
theorem fcl_1 {P : am_Q} {X : am_X} {s : Nat} {v3 v4 : Option am_V} (hX : am_K (d + 4) false nm_X12_findCliffords P X) (hs : s < 48) (h : tbN M (fcN s)) (hE : ∀ N w3 w4, fcF M N → tbN N (fcN (s + 1)) → X 41 [some (aR 108), some (aI (nI (s / 2))), some (aI (nI (s % 2 + 2))), w3, w4] [] N) : X 41 [some (aR 108), some (aI (nI (s / 2))), some (aI (nI (s % 2 + 1))), v3, v4] [] M := by
  obtain ⟨hN, hA⟩ := h
  obtain ⟨n24, hi, _⟩ := cn_f s (by omega)
  have hi := hi hs
  generalize hn : fcN s = n at *
  obtain ⟨k1, k2, k3⟩ := kw_f (s / 2) (by omega)
  have hgl : gl (s % 2 + 1) = if s % 2 = 0 then 3 else 4 := by
    unfold gl
    by_cases q : s % 2 = 0
    · rw [if_pos (by omega), if_pos q]
    · rw [if_neg (by omega), if_neg q]
  have ew : kw (s / 2) ++ [gl (s % 2 + 1)] = wS s := by rw [hgl]; rfl
  refine am_run hX 3 _ _ _ _ ?_
  conv => whnf
  refine ⟨fun z => absurd z (nI_nlt (a := 2) (by omega) (by decide)), fun _ => ?_⟩
  refine am_run hX 4 _ _ _ _ ?_
  conv => whnf
  refine am_cq (ct_mkW (d := d) (M := M) (by omega) (by omega) (hA _ hi)) ?_
  rintro r1 N1 ⟨rfl, f1, o1⟩
  refine ⟨none, rfl, ?_⟩
  rw [ew] at o1
  have bw : wk (wS s) ≤ 120 := by
    rw [← ew, wk_a]
    have := wk_1 (gl (s % 2 + 1)) []
    have e0 : wk [] = 0 := rfl
    omega
  have A1 : ∀ q, q < n → kwA N1 q := fun q hq => kwA_f (by rw [f1.1]) (by rw [f1.1]) (f1.2 190 (by decide) (by decide) (by decide) (by decide)) (hA q hq)
  have N1n : N1.1 108 131 = nI n := by rw [f1.1]; exact hN
  refine am_run hX 4 _ _ _ _ ?_
  conv => whnf
  refine fc_k (d := d + 2) (M := N1) (n := n) (i := s / 2) (l := s % 2 + 1) (w := wS s) hX n24 bw N1n A1 o1 (fun N2 f2 => ?_) n 0 N1 (by omega) (opF_r 118 N1)
  have A2 : ∀ q, q < n → kwA N2 q := fun q hq => kwA_f (by rw [f2.1]) (by rw [f2.1]) (f2.2 190 (by decide) (by decide) (by decide)) (A1 q hq)
  have N2n : N2.1 108 131 = nI n := by rw [f2.1]; exact N1n
  have o2 : mxW (N2.2 187) 0 (wS s) := by rw [f2.2 187 (by decide) (by decide) (by decide)]; exact o1
  have F2 : fcF M N2 := fcF_t (fcF_l f1) (fcF_o f2)
  have stp : ∀ (N : mm_M) (w3 w4 : Option am_V), fcF M N → tbN N (fcN (s + 1)) → X 224 [some (aR 108), some (aI (nI (s / 2))), some (aI (nI (s % 2 + 1))), w3, w4] [] N := by
    intro N w3 w4 a b
    refine am_run hX 2 _ _ _ _ ?_
    conv => whnf
    rw [nI_1]
    exact hE N w3 w4 a b
  have hfc := fc_s hs
  rw [hn] at hfc
  rcases hfc with ⟨ha, e⟩ | ⟨ha, e, ek⟩
  · rw [ha]
    refine am_run hX 2 _ _ _ _ ?_
    conv => whnf
    refine ⟨fun z => absurd z (by decide), fun _ => ?_⟩
    refine am_run hX 1 _ _ _ _ ?_
    conv => whnf
    exact stp N2 _ _ F2 (by rw [e]; exact ⟨N2n, A2⟩)
  · rw [ha]
    have n23 : n < 24 := by
      have := (cn_f (s + 1) (by omega)).1
      omega
    refine am_run hX 2 _ _ _ _ ?_
    conv => whnf
    refine ⟨fun _ => ?_, fun z => absurd rfl z⟩
    have e1 : 20 * nI n = nI (20 * n) := by rw [show (20 : Int32) = nI 20 from rfl, nI_mul]
    refine am_run hX 11 _ _ _ _ ?_
    conv => whnf
    rw [N2n, e1]
    refine am_cq (ct_cp187_190 (d := d + 3) (M := N2) (a := 20 * n) (by omega) o2) ?_
    rintro r3 N3 ⟨rfl, f3, o3, u3⟩
    refine ⟨none, rfl, ?_⟩
    refine am_run hX 2 _ _ _ _ ?_
    conv => whnf
    have N3n : N3.1 108 131 = nI n := by rw [f3.1]; exact N2n
    have hl3 : N3.1 192 (s / 2) = nI (kw (s / 2)).length := by rw [f3.1]; exact (A2 _ hi).1
    have z0 : (fun j => if 20 * n ≤ j ∧ j < 20 * n + 0 then N3.1 191 (20 * (s / 2) + (j - 20 * n)) else N3.1 191 j) = N3.1 191 := by
      funext j
      rw [if_neg (by omega)]
    have key := fc_c (M := N3) (n := n) (i := s / 2) (l := s % 2 + 1) (len := (kw (s / 2)).length) (v3 := 0) (f := N3.1 191) hX n23 hi N3n hl3 k1 rfl ?_ (kw (s / 2)).length 0 (by omega)
    · rw [z0, mm_iz] at key
      exact key
    · generalize hK : mm_i N3 191 _ = K
      have K1 : ∀ k, k ≠ 191 → K.1 k = N3.1 k := fun k hk => by rw [← hK, mm_ne _ _ _ _ hk]
      have K2 : K.1 191 = fun j => if 20 * n ≤ j ∧ j < 20 * n + (kw (s / 2)).length then N3.1 191 (20 * (s / 2) + (j - 20 * n)) else N3.1 191 j := by rw [← hK, mm_i1]
      have K3 : ∀ k, K.2 k = N3.2 k := fun k => by rw [← hK]; rfl
      generalize hlen : (kw (s / 2)).length = len at *
      have e2 : nI (20 * n) + nI len = nI (20 * n + len) := nI_add _ _
      refine am_run hX 13 _ _ _ _ ?_
      conv => whnf
      rw [K1 108 (by decide), N3n, K1 192 (by decide)]
      refine ⟨vp_in_nI (by show s / 2 < 24; omega) (by decide), ?_⟩
      conv => whnf
      rw [nI_clamp (n := s / 2) (by omega), hl3, e1, e2]
      refine ⟨vp_in_nI (by show _ < 480; omega) (by decide), ?_⟩
      rw [nI_clamp (n := 20 * n + len) (by omega)]
      generalize hQ : mm_i K 191 _ = Q
      have Q1 : ∀ k, k ≠ 191 → Q.1 k = K.1 k := fun k hk => by rw [← hQ, mm_ne _ _ _ _ hk]
      have Q2 : Q.1 191 = upd (K.1 191) (20 * n + len) (nI (s % 2 + 1)) := by rw [← hQ, mm_i1]
      have Q3 : ∀ k, Q.2 k = K.2 k := fun k => by rw [← hQ]; rfl
      refine am_run hX 11 _ _ _ _ ?_
      conv => whnf
      rw [Q1 108 (by decide), K1 108 (by decide), N3n, Q1 192 (by decide), K1 192 (by decide)]
      refine ⟨vp_in_nI (by show s / 2 < 24; omega) (by decide), ?_⟩
      conv => whnf
      refine ⟨vp_in_nI (by show n < 24; omega) (by decide), ?_⟩
      rw [nI_clamp (n := s / 2) (by omega), hl3, nI_1, nI_clamp (n := n) (by omega)]
      generalize hU : mm_i Q 192 _ = U
      have U1 : ∀ k, k ≠ 192 → U.1 k = Q.1 k := fun k hk => by rw [← hU, mm_ne _ _ _ _ hk]
      have U2 : U.1 192 = upd (N3.1 192) n (nI (len + 1)) := by rw [← hU, mm_i1, Q1 192 (by decide), K1 192 (by decide)]
      have U3 : ∀ k, U.2 k = Q.2 k := fun k => by rw [← hU]; rfl
      refine am_run hX 6 _ _ _ _ ?_
      conv => whnf
      rw [U1 108 (by decide), Q1 108 (by decide), K1 108 (by decide), N3n, nI_1]
      generalize hV : mm_i U 108 _ = V
      have V1 : ∀ k, k ≠ 108 → V.1 k = U.1 k := fun k hk => by rw [← hV, mm_ne _ _ _ _ hk]
      have V2 : V.1 108 = upd (N3.1 108) 131 (nI (n + 1)) := by rw [← hV, mm_i1]
      have V3 : ∀ k, V.2 k = N3.2 k := fun k => by
        rw [← hV]
        show U.2 k = _
        rw [U3, Q3, K3]
      have V191 : V.1 191 = upd (K.1 191) (20 * n + len) (nI (s % 2 + 1)) := by rw [V1 191 (by decide), U1 191 (by decide), Q2]
      have V192 : V.1 192 = upd (N3.1 192) n (nI (len + 1)) := by rw [V1 192 (by decide), U2]
      refine stp V _ _ (fcF_t F2 ⟨fun k a b c => ?_, fun y hy => ?_, fun k _ _ _ _ a => ?_⟩) ?_
      · rw [V1 k a, U1 k c, Q1 k b, K1 k b, f3.1]
      · rw [V2, up_ne hy, f3.1]
      · rw [V3, f3.2 k a]
      · rw [e]
        refine ⟨by rw [V2]; exact up_at, fun q hq => ?_⟩
        by_cases eq : q = n
        · subst eq
          have hlw : (kw q).length = len + 1 := by
            rw [ek, ← ew, List.length_append, hlen]
            rfl
          refine ⟨by rw [V192, up_at, hlw], fun k hk => ?_, ?_⟩
          · rw [hlw] at hk
            rw [V191]
            by_cases e' : k = len
            · subst e'
              rw [up_at, ek, ← ew]
              have : (kw (s / 2) ++ [gl (s % 2 + 1)]).getD k 0 = gl (s % 2 + 1) := by
                rw [← hlen, List.getD_eq_getElem?_getD, List.getElem?_append_right (Nat.le_refl _), Nat.sub_self]
                rfl
              rw [this, hgl]
              unfold ltN
              by_cases q2 : s % 2 = 0
              · rw [if_pos q2, if_pos rfl, q2]
              · rw [if_neg q2, if_neg (by decide), show s % 2 = 1 by omega]
            · have kl : k < len := by omega
              rw [up_ne (by omega), K2]
              dsimp only
              rw [if_pos (by omega), Nat.add_sub_cancel_left, f3.1, (A2 _ hi).2.1 k (by rw [hlen]; exact kl), ek, ← ew]
              have e9 : (kw (s / 2) ++ [gl (s % 2 + 1)]).getD k 0 = (kw (s / 2)).getD k 0 := by
                rw [List.getD_eq_getElem?_getD, List.getElem?_append_left (by rw [hlen]; exact kl), ← List.getD_eq_getElem?_getD]
              rw [e9]
          · rw [V3, ek]
            exact o3
        · have hq : q < n := by omega
          obtain ⟨b1, b2, b3⟩ := A2 q hq
          obtain ⟨kq, _, _⟩ := kw_f q (by omega)
          refine ⟨by rw [V192, up_ne eq, f3.1]; exact b1, fun k hk => ?_, ?_⟩
          · rw [V191, up_ne (by omega), K2]
            dsimp only
            rw [if_neg (by omega), f3.1]
            exact b2 k hk
          · rw [V3]
            refine mx_f (fun j hj => ?_) b3
            exact u3 _ (by omega)
set_option maxRecDepth 100000 in
theorem fc_o {P : am_Q} {X : am_X} (hX : am_K (d + 4) false nm_X12_findCliffords P X) (hP : ∀ N, fcF M N → tbN N 24 → P (.inl none) N) : ∀ (m i : Nat) (N : mm_M) (v2 v3 v4 : Option am_V), i + m = 24 → fcF M N → tbN N (fcN (2 * i)) → X 31 [some (aR 108), some (aI (nI i)), v2, v3, v4] [] N := by
  intro m
  induction m with
  | zero =>
    intro i N v2 v3 v4 hi hF hT
    obtain rfl : i = 24 := by omega
    have hT : tbN N 24 := hT
    refine am_run hX 4 _ _ _ _ ?_
    conv => whnf
    rw [hT.1]
    refine ⟨fun _ => ?_, fun z => absurd (by decide) z⟩
    refine am_run hX 1 _ _ _ _ ?_
    conv => whnf
    exact ⟨trivial, hP N hF hT⟩
  | succ m ih =>
    intro i N v2 v3 v4 hi hF hT
    obtain ⟨n24, hlt, _⟩ := cn_f (2 * i) (by omega)
    have hlt := hlt (by omega)
    refine am_run hX 4 _ _ _ _ ?_
    conv => whnf
    rw [hT.1]
    refine ⟨fun z => absurd z (nI_ge (by omega) (by omega)), fun _ => ?_⟩
    refine am_run hX 2 _ _ _ _ ?_
    conv => whnf
    have key := fcl_1 (d := d) (M := N) (s := 2 * i) (v3 := v3) (v4 := v4) hX (by omega) hT (fun N1 w3 w4 f1 t1 => ?_)
    · rw [show 2 * i / 2 = i by omega, show 2 * i % 2 + 1 = 1 by omega] at key
      exact key
    · rw [show 2 * i / 2 = i by omega, show 2 * i % 2 + 2 = 2 by omega]
      have key := fcl_1 (d := d) (M := N1) (s := 2 * i + 1) (v3 := w3) (v4 := w4) hX (by omega) t1 (fun N2 u3 u4 f2 t2 => ?_)
      · rw [show (2 * i + 1) / 2 = i by omega, show (2 * i + 1) % 2 + 1 = 2 by omega] at key
        exact key
      · rw [show (2 * i + 1) / 2 = i by omega, show (2 * i + 1) % 2 + 2 = 3 by omega]
        refine am_run hX 3 _ _ _ _ ?_
        conv => whnf
        refine ⟨fun _ => ?_, fun z => absurd (by decide) z⟩
        refine am_run hX 2 _ _ _ _ ?_
        conv => whnf
        rw [nI_1]
        exact ih (i + 1) N2 _ _ _ (by omega) (fcF_t hF (fcF_t f1 f2)) t2
/-- the Cliffords are not known yet, or all are -/
def fcI (M : mm_M) : Prop := M.1 108 131 = 0 ∨ tbN M 24
set_option maxRecDepth 100000 in
theorem ct_fC (h : fcI M) : am_M (d + 5) false nm_X12_findCliffords [aR 108] M (fun r N => r = .inl none ∧ fcF M N ∧ tbN N 24) := by
  refine ⟨rfl, rfl, rfl, fun X hX => am_run hX 3 _ _ _ _ ?_⟩
  conv => whnf
  rcases h with h | h
  · rw [h]
    refine ⟨fun _ => ?_, fun z => absurd (by decide) z⟩
    refine am_run hX 5 _ _ _ _ ?_
    conv => whnf
    refine am_cq (ct_un190 (d := d + 3)) ?_
    rintro r1 N1 ⟨rfl, f1, o1, _⟩
    refine ⟨none, rfl, ?_⟩
    refine am_run hX 3 _ _ _ _ ?_
    conv => whnf
    generalize hN2 : mm_i N1 108 _ = N2
    have g1 : ∀ k, k ≠ 108 → N2.1 k = N1.1 k := fun k hk => by rw [← hN2, mm_ne _ _ _ _ hk]
    have g2 : N2.1 108 = upd (N1.1 108) 131 1 := by rw [← hN2, mm_i1]
    have g3 : ∀ k, N2.2 k = N1.2 k := fun k => by rw [← hN2]; rfl
    refine am_run hX 5 _ _ _ _ ?_
    conv => whnf
    refine ⟨show vp_in (nI 0) 24 from vp_in_nI (by decide) (by decide), ?_⟩
    generalize hN3 : mm_i N2 192 _ = N3
    have h1 : ∀ k, k ≠ 192 → N3.1 k = N2.1 k := fun k hk => by rw [← hN3, mm_ne _ _ _ _ hk]
    have h2 : N3.1 192 0 = 0 := by rw [← hN3, mm_i1]; rfl
    have h3 : ∀ k, N3.2 k = N2.2 k := fun k => by rw [← hN3]; rfl
    refine am_run hX 2 _ _ _ _ ?_
    conv => whnf
    refine fc_o (d := d) (M := M) hX (fun N a b => ⟨rfl, a, b⟩) 24 0 N3 none none none (by omega) ⟨fun k a b c => ?_, fun y hy => ?_, fun k _ _ _ _ e => ?_⟩ ⟨?_, fun q hq => ?_⟩
    · rw [h1 k c, g1 k a, f1.1]
    · rw [h1 108 (by decide), g2, up_ne hy, f1.1]
    · rw [h3, g3, f1.2 k e]
    · rw [h1 108 (by decide), g2]
      exact up_at
    · have hq : q < 1 := hq
      obtain rfl : q = 0 := by omega
      refine ⟨h2, fun k hk => absurd hk (Nat.not_lt_zero _), ?_⟩
      rw [h3, g3]
      exact o1
  · rw [h.1]
    refine ⟨fun z => absurd z (by decide), fun _ => ?_⟩
    refine am_run hX 1 _ _ _ _ ?_
    conv => whnf
    exact ⟨trivial, rfl, fcF_r M, h⟩
end FML
