/-! mix, the reference -/
def mzF (M N : mm_M) (v : Int32) : Prop := (∀ k, k ≠ 108 → N.1 k = M.1 k) ∧ (∀ j, j ≠ 0 → j ≠ 74 → j ≠ 89 → N.1 108 j = M.1 108 j) ∧ N.1 108 0 = 0 ∧ N.1 108 89 = v ∧ (N.1 108 74 = M.1 108 74 ∨ N.1 108 74 = 0) ∧ ∀ c, c ≠ 118 → c ≠ 119 → c ≠ 152 → c ≠ 161 → c ≠ 162 → c ≠ 163 → N.2 c = M.2 c
section MXY
variable {d W K n c S j a : Nat} {M : mm_M} {xs : Nat → R4} {op : Nat → bk_X}
set_option maxRecDepth 100000 in
theorem mxR_0 {p q : Int32} (hb : bk_iv M n) (h : M.1 108 88 = -1 ∨ (p < 0 ∨ nI n ≤ p) ∨ ∃ c W S, c < n ∧ p = nI c ∧ bk_c M c W S ∧ (q < 0 ∨ nI S ≤ q)) : am_M (d + 2) false nm_X12_mix [aR 108, aI p, aI q] M (am_q1 (aI 0) (th0 M)) := by
  have hn := hb.1
  have h6 : (th0 M).1 108 6 = nI n := hb.2.2.1
  refine ⟨rfl, rfl, rfl, fun X hX => am_run hX 7 _ _ _ _ ?_⟩
  conv => whnf
  have no : X 48 [some (aR 108), some (aI p), some (aI q), none] [] (th0 M) := by
    refine am_run hX 2 _ _ _ _ ?_
    conv => whnf
    exact ⟨rfl, rfl, rfl⟩
  refine ⟨fun _ => no, fun c8 => ?_⟩
  have h := h.resolve_left c8
  show X 13 _ _ (th0 M)
  refine am_run hX 3 _ _ _ _ ?_
  conv => whnf
  refine am_c1 (bk_isc (d := d) (M := th0 M) p) ?_
  rw [h6]
  conv => whnf
  refine am_run hX 1 _ _ _ _ ?_
  conv => whnf
  by_cases z : p < 0 ∨ nI n ≤ p
  · rw [if_pos z]
    exact ⟨fun _ => no, fun c => absurd rfl c⟩
  · rw [if_neg z]
    obtain ⟨c, W, S, cn, rfl, hc, hq⟩ := h.resolve_left z
    have s300 := hc.2.2.1
    refine ⟨fun c => absurd c (by decide), fun _ => ?_⟩
    refine am_run hX 2 _ _ _ _ ?_
    conv => whnf
    refine ⟨fun _ => no, fun q0 => ?_⟩
    refine am_run hX 6 _ _ _ _ ?_
    conv => whnf
    refine ⟨vp_in_nI (by show c < 21; omega) (by decide), ?_⟩
    conv => whnf
    rw [nI_clamp (n := c) (by omega), show (th0 M).1 111 c = nI S from hc.2.2.2.2.2.2.1]
    exact ⟨fun _ => no, fun q1 => absurd (hq.resolve_left q0) q1⟩
set_option maxRecDepth 100000 in
theorem mxR_1 {Wc : Nat} (w1 : 1 ≤ W) (w3 : W ≤ 3) (e88 : M.1 108 88 = nI W) (hc : cir M n c Wc S op) (h89 : M.1 108 89 = nI a) (a24 : a ≤ 24) (hj : j < S) (hK : mxO W j S Wc a op → mxK (op j) K ≤ 120) (hs : sI (fun c => nrm (xs c)) (2 ^ (2 * W)) ≤ 2 ^ K) (k120 : K ≤ 120) (hY : ceS M W K (fun a b => xs (a + 2 ^ W * b))) : am_M (d + 8) false nm_X12_mix [aR 108, aI (nI c), aI (nI j)] M (fun t N => (¬ mxO W j S Wc a op ∧ t = .inl (some (aI 0)) ∧ N = th0 M) ∨ (mxO W j S Wc a op ∧ t = .inl (some (aI 1)) ∧ mzF M N (nI (mxA (op j) a)) ∧ ceS N W (mxK (op j) K) (fun a b => mxN W (op j) xs (a + 2 ^ W * b)))) := by
  obtain ⟨hbk, hcc, hbc, hops, _⟩ := hc
  have hn20 := hbk.1
  have w8 := hbc.2.1
  have s300 := hbc.2.2.1
  have h6 : (th0 M).1 108 6 = nI n := hbk.2.2.1
  obtain ⟨og, bo⟩ := hops j hj
  obtain ⟨b1, b2, b3, b4, b5, b6, b7⟩ := bo
  have ow := og.1
  have x10 := ow.1
  have hA : vp_in (nI (300 * c + j)) 6300 := vp_in_nI (by omega) (by decide)
  refine ⟨rfl, rfl, rfl, fun X hX => am_run hX 7 _ _ _ _ ?_⟩
  conv => whnf
  rw [show (mm_i M 108 (upd (M.1 108) 0 0)).1 108 88 = nI W from e88]
  refine ⟨fun z => absurd z (nI_nm (by omega)), fun _ => ?_⟩
  show X 13 _ _ (th0 M)
  refine am_run hX 3 _ _ _ _ ?_
  conv => whnf
  refine am_c1 (bk_isc (d := d + 6) (M := th0 M) (nI c)) ?_
  rw [h6, if_neg (bk_yes hn20 hcc)]
  conv => whnf
  refine am_run hX 1 _ _ _ _ ?_
  conv => whnf
  refine ⟨fun z => absurd z (by decide), fun _ => ?_⟩
  refine am_run hX 2 _ _ _ _ ?_
  conv => whnf
  refine ⟨fun z => absurd z (nI_pos (by omega)), fun _ => ?_⟩
  refine am_run hX 6 _ _ _ _ ?_
  conv => whnf
  refine ⟨vp_in_nI (by show c < 21; omega) (by decide), ?_⟩
  conv => whnf
  rw [nI_clamp (n := c) (by omega), show (th0 M).1 111 c = nI S from hbc.2.2.2.2.2.2.1]
  refine ⟨fun z => absurd z (nI_ge hj (by omega)), fun _ => ?_⟩
  refine am_run hX 7 _ _ _ _ ?_
  conv => whnf
  refine ⟨vp_in_nI (by show c < 21; omega) (by decide), ?_⟩
  conv => whnf
  rw [nI_clamp (n := c) (by omega), show (th0 M).1 110 c = nI Wc from hbc.2.2.2.2.1, show (th0 M).1 108 88 = nI W from e88]
  by_cases eW : Wc = W
  · subst eW
    refine ⟨fun _ => ?_, fun z => absurd rfl z⟩
    have no : ¬ mxO Wc j S Wc a op → X 95 [some (aR 108), some (aI (nI c)), some (aI (nI j)), some (aI (nI (300 * c + j)))] [] (th0 M) := fun z => by
      refine am_run hX 2 _ _ _ _ ?_
      conv => whnf
      exact ⟨rfl, Or.inl ⟨z, rfl, rfl⟩⟩
    refine am_run hX 6 _ _ _ _ ?_
    conv => whnf
    rw [show (300 : Int32) = nI 300 from rfl, nI_mul, nI_add]
    refine am_run hX 5 _ _ _ _ ?_
    conv => whnf
    refine ⟨hA, ?_⟩
    conv => whnf
    rw [nI_clamp (n := 300 * c + j) (by omega), show (th0 M).1 116 (300 * c + j) = nI (op j).2.2.2.2.1 from b6]
    have k5 := ow.2.2.2.2.1
    have k6 := ow.2.2.2.2.2
    by_cases q1 : (op j).2.2.2.2.1 = 0
    · refine ⟨fun z => absurd (by rw [q1]; rfl) z, fun _ => ?_⟩
      refine am_run hX 5 _ _ _ _ ?_
      conv => whnf
      refine ⟨hA, ?_⟩
      conv => whnf
      rw [nI_clamp (n := 300 * c + j) (by omega), show (th0 M).1 117 (300 * c + j) = nI (op j).2.2.2.2.2 from b7]
      by_cases q2 : (op j).2.2.2.2.2 = 0
      · refine ⟨fun z => absurd (by rw [q2]; rfl) z, fun _ => ?_⟩
        have b2' : (th0 M).1 112 (300 * c + j) = nI (op j).1 := b2
        have bT : ∀ c', c' < 2 ^ (2 * Wc) → nrm (xs c') ≤ 2 ^ 120 := fun c' hc' => by
          have t : nrm (xs c') ≤ sI (fun c => nrm (xs c)) (2 ^ (2 * Wc)) := sI_at (F := fun c => nrm (xs c)) (2 ^ (2 * Wc)) (fun i _ => nrm0 _) c' hc'
          exact Int.le_trans t (Int.le_trans hs (p120 k120))
        -- from 117 on
        have k117 : mxO Wc j S Wc a op → ∀ N0, (∀ k, k ≠ 108 → N0.1 k = M.1 k) → (∀ j, j ≠ 0 → j ≠ 89 → N0.1 108 j = M.1 108 j) → N0.1 108 0 = 0 → N0.1 108 89 = nI (mxA (op j) a) → N0.2 = M.2 → X 117 [some (aR 108), some (aI (nI c)), some (aI (nI j)), some (aI (nI (300 * c + j)))] [] N0 := fun ok N0 i1 i2 i3 i4 i5 => by
          have n12 : N0.1 112 (300 * c + j) = nI (op j).1 := by rw [i1 112 (by decide)]; exact b2
          have n13 : N0.1 113 (300 * c + j) = nI (op j).2.1 := by rw [i1 113 (by decide)]; exact b3
          have n88 : N0.1 108 88 = nI Wc := (i2 88 (by decide) (by decide)).trans e88
          have nY : ceS N0 Wc K (fun a b => xs (a + 2 ^ Wc * b)) := by
            unfold ceS
            rw [i5]
            exact hY
          refine am_run hX 6 _ _ _ _ ?_
          conv => whnf
          refine ⟨hA, ?_⟩
          conv => whnf
          rw [nI_clamp (n := 300 * c + j) (by omega), n12]
          by_cases k9 : (op j).1 < 9
          · refine ⟨fun _ => ?_, fun z => absurd (nI_lt (b := 9) k9 (by decide)) z⟩
            have eN : mxN Wc (op j) xs = mxG Wc (op j) xs := if_pos k9
            refine am_run hX 3 _ _ _ _ ?_
            conv => whnf
            refine am_cq (ct_mixG (d := d) (M := N0) (K := K) (xs := xs) w3 og (by omega) (hK ok) n88 ⟨by omega, n12, n13, by rw [i1 114 (by decide)]; exact b4, by rw [i1 115 (by decide)]; exact b5⟩ hs nY) ?_
            rintro t N ⟨rfl, f1, y1⟩
            refine ⟨_, rfl, ?_⟩
            conv => whnf
            refine am_run hX 2 _ _ _ _ ?_
            conv => whnf
            refine ⟨rfl, Or.inr ⟨ok, rfl, ⟨fun k a => (f1.1 k a).trans (i1 k a), fun j u v w => (f1.2.1 j v).trans (i2 j u w), (f1.2.1 0 (by decide)).trans i3, (f1.2.1 89 (by decide)).trans i4, Or.inr f1.2.2.1, fun e a1 a2 a3 a4 a5 a6 => ?_⟩, ?_⟩⟩
            · rw [f1.2.2.2 e a1 a2 a3 a4 a5 a6, i5]
            · rw [eN]
              exact y1
          · have k3 : ¬ (op j).1 = 3 := by omega
            have eK : mxK (op j) K = K := if_neg k3
            refine ⟨fun z => absurd z (nI_nlt (b := 9) (by omega) (by omega)), fun _ => ?_⟩
            refine am_run hX 5 _ _ _ _ ?_
            conv => whnf
            refine ⟨hA, ?_⟩
            conv => whnf
            rw [nI_clamp (n := 300 * c + j) (by omega), n13]
            have fin : ∀ f, f = 0 ∨ f = 1 → (f = 1 ↔ (op j).1 = 10) → X 151 [some (aR 108), some (aI (nI c)), some (aI (nI j)), some (aI (nI (300 * c + j)))] [aI (nI f), aI (nI (op j).2.1), aR 108] N0 := fun f hf hf1 => by
              have eN : mxN Wc (op j) xs = if f = 1 then pdN Wc (op j).2.1 (wpN Wc (op j).2.1 xs) else wpN Wc (op j).2.1 xs := by
                unfold mxN
                rw [if_neg k9]
                by_cases q : (op j).1 = 10
                · rw [if_pos q, if_pos (hf1.mpr q)]
                · rw [if_neg q, if_neg fun z => q (hf1.mp z)]
              refine am_run hX 1 _ _ _ _ ?_
              conv => whnf
              refine am_cq (ct_mixM (d := d + 4) (M := N0) (K := K) (xs := xs) hf w3 ow.2.1 k120 n88 bT nY) ?_
              rintro t N ⟨rfl, f1, y1⟩
              refine ⟨_, rfl, ?_⟩
              conv => whnf
              refine am_run hX 3 _ _ _ _ ?_
              conv => whnf
              refine ⟨rfl, Or.inr ⟨ok, rfl, ⟨fun k a => ?_, fun j u v w => ?_, ?_, ?_, Or.inl ?_, fun e a1 a2 a3 a4 a5 a6 => ?_⟩, ?_⟩⟩
              · rw [f1.1]
                exact i1 k a
              · rw [f1.1]
                exact i2 j u w
              · rw [f1.1]
                exact i3
              · rw [f1.1]
                exact i4
              · rw [f1.1]
                exact i2 74 (by decide) (by decide)
              · rw [f1.2 e a1 a2 a5, i5]
              · rw [eN, eK]
                exact y1
            refine am_run hX 6 _ _ _ _ ?_
            conv => whnf
            refine ⟨hA, ?_⟩
            conv => whnf
            rw [nI_clamp (n := 300 * c + j) (by omega), n12]
            by_cases k10 : (op j).1 = 10
            · refine ⟨fun z => absurd (by rw [k10]; rfl) z, fun _ => ?_⟩
              refine am_run hX 2 _ _ _ _ ?_
              conv => whnf
              exact fin 1 (Or.inr rfl) ⟨fun _ => k10, fun _ => rfl⟩
            · refine ⟨fun _ => ?_, fun z => absurd (fun y => k10 ((nI_eq (b := 10) (by omega) (by decide)).mp y)) z⟩
              refine am_run hX 1 _ _ _ _ ?_
              conv => whnf
              exact fin 0 (Or.inl rfl) ⟨fun z => absurd z (by decide), fun z => absurd z k10⟩
        have t1 : ∀ k, k ≠ 108 → (th0 M).1 k = M.1 k := fun k a => if_neg a
        have t2 : ∀ j, j ≠ 0 → (th0 M).1 108 j = M.1 108 j := fun j a => if_neg a
        have k97 : mxO Wc j S Wc a op → X 97 [some (aR 108), some (aI (nI c)), some (aI (nI j)), some (aI (nI (300 * c + j)))] [] (th0 M) := fun ok => by
          refine am_run hX 6 _ _ _ _ ?_
          conv => whnf
          refine ⟨hA, ?_⟩
          conv => whnf
          rw [nI_clamp (n := 300 * c + j) (by omega), b2']
          by_cases k3 : (op j).1 = 3
          · refine ⟨fun z => absurd (by rw [k3]; rfl) z, fun _ => ?_⟩
            refine am_run hX 6 _ _ _ _ ?_
            conv => whnf
            rw [show (th0 M).1 108 89 = nI a from h89, nI_1]
            refine k117 ok _ (fun k u => (if_neg u).trans (t1 k u)) (fun j u v => (if_neg v : upd ((th0 M).1 108) 89 (nI (a + 1)) j = (th0 M).1 108 j).trans (t2 j u)) rfl ?_ rfl
            rw [show mxA (op j) a = a + 1 from if_pos k3]
            rfl
          · refine ⟨fun _ => ?_, fun z => absurd (fun y => k3 ((nI_eq (b := 3) (by omega) (by decide)).mp y)) z⟩
            refine k117 ok (th0 M) t1 (fun j u _ => t2 j u) rfl ?_ rfl
            rw [show mxA (op j) a = a from if_neg k3]
            exact h89
        refine am_run hX 6 _ _ _ _ ?_
        conv => whnf
        refine ⟨hA, ?_⟩
        conv => whnf
        rw [nI_clamp (n := 300 * c + j) (by omega), b2']
        by_cases k3 : (op j).1 = 3
        · refine ⟨fun z => absurd (by rw [k3]; rfl) z, fun _ => ?_⟩
          refine am_run hX 4 _ _ _ _ ?_
          conv => whnf
          rw [show (th0 M).1 108 89 = nI a from h89]
          by_cases a4 : a = 24
          · exact ⟨fun z => absurd (by rw [a4]; rfl) z, fun _ => no fun z => by have := z.2.2.2 k3; omega⟩
          · exact ⟨fun _ => k97 ⟨hj, rfl, ⟨q1, q2⟩, fun _ => by omega⟩, fun z => absurd (fun y => a4 ((nI_eq (b := 24) (by omega) (by decide)).mp y)) z⟩
        · exact ⟨fun _ => k97 ⟨hj, rfl, ⟨q1, q2⟩, fun z => absurd z k3⟩, fun z => absurd (fun y => k3 ((nI_eq (b := 3) (by omega) (by decide)).mp y)) z⟩
      · exact ⟨fun _ => no fun z => q2 z.2.2.1.2, fun z => absurd (fun y => q2 ((nI_eq (b := 0) (by omega) (by decide)).mp y)) z⟩
    · exact ⟨fun _ => no fun z => q1 z.2.2.1.1, fun z => absurd (fun y => q1 ((nI_eq (b := 0) (by omega) (by decide)).mp y)) z⟩
  · refine ⟨fun z => absurd ((nI_eq (by omega) (by omega)).mp z) eW, fun _ => ?_⟩
    refine am_run hX 2 _ _ _ _ ?_
    conv => whnf
    exact ⟨rfl, Or.inl ⟨fun z => eW z.2.1, rfl, rfl⟩⟩
end MXY
