/-! FORM: the reference whole -/
theorem lI_p (n : Nat) : lI ((n + 1 : Nat) : Int) - 1 = lI (n : Int) := by
  rw [show (1 : Int64) = lI 1 from rfl, lI_sub, show ((n + 1 : Nat) : Int) - 1 = (n : Int) by omega]
theorem kw_cw {k : Nat × Nat} (hk : gdK k) : kyN k < 24 ∧ cw k = kw (kyN k) := by
  obtain ⟨i, hi, rfl⟩ := hk
  have : ∀ i, i < 24 → kyN (kyP i) < 24 := by decide
  exact ⟨this i hi, rfl⟩
def kkB (i : Nat) : Bool := (List.range 24).all fun q => lkW (kw i) (kw q) == decide (i = q)
set_option maxRecDepth 100000 in
theorem kk_all : ((List.range 24).all kkB) = true := by decide +kernel
theorem lk_kk {i q : Nat} (hi : i < 24) (hq : q < 24) : lkW (kw i) (kw q) = decide (i = q) := eq_of_beq (List.all_eq_true.mp (List.all_eq_true.mp kk_all i (List.mem_range.mpr hi)) q (List.mem_range.mpr hq))
/-- alike with one of two that do the same -/
theorem lk_we {u v t : List Nat} (h : weq u v) (hl : lkW u t = true) : lkW v t = true := by
  obtain ⟨e, he, h0, h1⟩ := weq_rw h
  have r : ∀ i, i < 4 → ∀ p, red (wk u) (t8n p (en (rw0 u) (rw1 u) i)) = red (wk v) (t8n ((p + e) % 8) (en (rw0 v) (rw1 v) i)) := by
    intro i hi p
    have key : ∀ {x y : R4}, rn (wk v) x = t8n e (rn (wk u) y) → red (wk u) (t8n p x) = red (wk v) (t8n ((p + e) % 8) y) := fun {x y} q => red_u (by rw [rn_t8, q, ← t8n_a, rn_t8, ← t8n_m])
    have : i = 0 ∨ i = 1 ∨ i = 2 ∨ i = 3 := by omega
    rcases this with rfl | rfl | rfl | rfl
    · exact key (congrArg Prod.fst h0)
    · exact key (congrArg Prod.snd h0)
    · exact key (congrArg Prod.fst h1)
    · exact key (congrArg Prod.snd h1)
  obtain ⟨p, hp, hb⟩ := (an_iff 8).mp hl
  refine (an_iff 8).mpr ⟨(p + e) % 8, Nat.mod_lt _ (by decide), (all_iff 4).mpr fun i hi => ?_⟩
  have z := of_decide_eq_true ((all_iff 4).mp hb i hi)
  exact decide_eq_true (by rw [← r i hi p]; exact z)
theorem lk_cw {w : List Nat} {k : Nat × Nat} (hk : gdK k) (h : weq w (cw k)) {q : Nat} (hq : q < 24) : lkW w (kw q) = decide (kyN k = q) := by
  obtain ⟨a, b⟩ := kw_cw hk
  rw [b] at h
  rw [← lk_kk a hq]
  cases h1 : lkW w (kw q) with
  | true => exact (lk_we h h1).symm
  | false =>
    cases h2 : lkW (kw (kyN k)) (kw q) with
    | false => rfl
    | true => exact absurd (lk_we (weq_s h) h2) (by rw [h1]; decide)
/-- kinds of OPS, the last first -/
def kdR (l : List bk_X) (j : Nat) : List Nat := ((List.range j).map fun i => (zg l i).1).reverse
theorem kdR_s (l : List bk_X) (j : Nat) : kdR l (j + 1) = (zg l j).1 :: kdR l j := by
  unfold kdR
  rw [List.range_succ, List.map_append, List.reverse_append]
  rfl
/-- the letters of THE FORM -/
def fmW (w : List Nat) : List Nat := (syw (fmR w ([], (1, 2))).1 ++ cw (fmR w ([], (1, 2))).2).map chr3
def frF (M N : mm_M) : Prop := (∀ k, k ≠ 108 → k ≠ 189 → k ≠ 191 → k ≠ 192 → N.1 k = M.1 k) ∧ (∀ y, y ≠ 129 → y ≠ 130 → y ≠ 131 → N.1 108 y = M.1 108 y) ∧ ∀ k, k ≠ 118 → k ≠ 119 → k ≠ 152 → k ≠ 153 → (k < 186 ∨ 188 < k) → k ≠ 190 → N.2 k = M.2 k
theorem frF_t {M N K : mm_M} (h : frF M N) (g : frF N K) : frF M K := ⟨fun k a b c e => (g.1 k a b c e).trans (h.1 k a b c e), fun y a b c => (g.2.1 y a b c).trans (h.2.1 y a b c), fun k a b c e f i => (g.2.2 k a b c e f i).trans (h.2.2 k a b c e f i)⟩
theorem frF_k {M N : mm_M} (h : tofF M N) : frF M N := ⟨fun k a b _ _ => h.1 k a b, fun y a b _ => h.2.1 y a b, fun k a b c e f _ => h.2.2 k a b c e f⟩
theorem frF_c {M N : mm_M} (h : fcF M N) : frF M N := ⟨fun k a _ b c => h.1 k a b c, fun y _ _ a => h.2.1 y a, fun k a b c _ e f => h.2.2 k a b c (by omega) f⟩
theorem tbN_k {M N : mm_M} {n : Nat} (h : tofF M N) (g : tbN M n) : tbN N n := ⟨by rw [h.2.1 131 (by decide) (by decide)]; exact g.1, fun q hq => kwA_f (h.1 191 (by decide) (by decide)) (h.1 192 (by decide) (by decide)) (h.2.2 190 (by decide) (by decide) (by decide) (by decide) (by omega)) (g.2 q hq)⟩
section FMP
variable {d : Nat} {M : mm_M}
set_option maxRecDepth 100000 in
theorem fr_w {P : am_Q} {X : am_X} {c : Nat} {l : List bk_X} (hX : am_K (d + 3) false nm_X12_form P X) (hc : c < 20) (h111 : M.1 111 c = nI l.length) (l300 : l.length ≤ 300) (h112 : ∀ j, j < l.length → M.1 112 (300 * c + j) = nI (zg l j).1) (hk8 : ∀ j, j < l.length → (zg l j).1 < 8) (hh : wk (kdR l l.length) ≤ 60) (hE : ∀ N, lfF 186 M N → mxW (N.2 186) 0 (kdR l l.length) → X 89 [some (aR 108), some (aI (nI c)), some (aI (nI (300 * c + l.length))), none, none, none] [] N) : ∀ (m j : Nat) (N : mm_M), j + m = l.length → lfF 186 M N → mxW (N.2 186) 0 (kdR l j) → wk (kdR l j) ≤ 60 → X 52 [some (aR 108), some (aI (nI c)), some (aI (nI (300 * c + j))), none, none, none] [] N := by
  have e3 : (300 : Int32) * nI c + nI l.length = nI (300 * c + l.length) := by rw [show (300 : Int32) = nI 300 from rfl, nI_mul, nI_add]
  intro m
  induction m with
  | zero =>
    intro j N hj hF hW _
    obtain rfl : j = l.length := by omega
    refine am_run hX 10 _ _ _ _ ?_
    conv => whnf
    refine ⟨vp_in_nI (by show c < 21; omega) (by decide), ?_⟩
    conv => whnf
    rw [nI_clamp (n := c) (by omega), hF.1, h111, e3]
    exact ⟨fun _ => hE N hF hW, fun z => absurd (nI_le (Nat.le_refl _) (by omega)) z⟩
  | succ m ih =>
    intro j N hj hF hW hb
    have jl : j < l.length := by omega
    refine am_run hX 10 _ _ _ _ ?_
    conv => whnf
    refine ⟨vp_in_nI (by show c < 21; omega) (by decide), ?_⟩
    conv => whnf
    rw [nI_clamp (n := c) (by omega), hF.1, h111, e3]
    refine ⟨fun z => absurd z (nI_ge (by omega) (by omega)), fun _ => ?_⟩
    refine am_run hX 9 _ _ _ _ ?_
    conv => whnf
    refine ⟨vp_in_nI (by show 300 * c + j < 6300; omega) (by decide), ?_⟩
    conv => whnf
    rw [nI_clamp (n := 300 * c + j) (by omega), hF.1, h112 j jl]
    refine am_cq (ct_lW186 (d := d) (M := N) (g := (zg l j).1) (hk8 j jl) (by omega) hW) ?_
    rintro r1 N1 ⟨rfl, f1, o1⟩
    refine ⟨none, rfl, ?_⟩
    rw [← kdR_s] at o1
    refine am_run hX 2 _ _ _ _ ?_
    conv => whnf
    rw [nI_1, show 300 * c + j + 1 = 300 * c + (j + 1) by omega]
    refine ih (j + 1) N1 (by omega) (lfF_t hF f1) o1 ?_
    have mono : ∀ i, wk (kdR l (j + 1)) ≤ wk (kdR l (j + 1 + i)) := by
      intro i
      induction i with
      | zero => exact Nat.le_refl _
      | succ i ih2 =>
        rw [show j + 1 + (i + 1) = j + 1 + i + 1 by omega, kdR_s l (j + 1 + i)]
        show _ ≤ wk (kdR l (j + 1 + i)) + hk _
        omega
    have := mono (l.length - (j + 1))
    rw [show j + 1 + (l.length - (j + 1)) = l.length by omega] at this
    omega
/-- so far, the reference is right -/
def rfI (N : mm_M) (ss0 ss L : List Nat) (k : Nat × Nat) (ts : Nat) : Prop := (∃ w, mxW (N.2 186) 0 w ∧ weq w (syw ss ++ cw k)) ∧ nfS ss ∧ (L ≠ [] → ss ≠ [] → ss.getD 0 0 ≠ 0) ∧ frmL N L ∧ N.1 108 130 = nI ts ∧ L ++ (syw ss).map chr3 = (syw ss0).map chr3 ∧ ts + ss.length = ss0.length
set_option maxRecDepth 200000 in
theorem frs_1 {P : am_Q} {X : am_X} {c : Nat} {ss0 : List Nat} {k : Nat × Nat} (hX : am_K (d + 5) false nm_X12_form P X) (hk : gdK k) (h61 : ss0.length ≤ 61) (hE : ∀ N w4, tofF M N → rfI N ss0 [] ((syw ss0).map chr3) k ss0.length → X 163 [some (aR 108), some (aI (nI c)), some (aJ (lI ((0 : Nat) : Int))), none, w4, none] [] N) : ∀ (ss L : List Nat) (ts : Nat) (N : mm_M) (v4 : Option am_V), tofF M N → rfI N ss0 ss L k ts → X 109 [some (aR 108), some (aI (nI c)), some (aJ (lI (ss.length : Nat))), none, v4, none] [] N := by
  have sy3 : ∀ s : Nat, ((sy s).map chr3).length ≤ 3 := fun s => by
    unfold sy
    split
    · exact (by decide : 1 ≤ 3)
    · split
      · exact (by decide : 2 ≤ 3)
      · exact (by decide : 3 ≤ 3)
  have sl : ∀ l : List Nat, ((syw l).map chr3).length ≤ 3 * l.length := by
    intro l
    induction l with
    | nil => exact Nat.le_refl _
    | cons s l ih =>
      have a := sy3 s
      show ((sy s ++ syw l).map chr3).length ≤ 3 * (l.length + 1)
      rw [List.map_append, List.length_append]
      omega
  intro ss
  induction ss with
  | nil =>
    intro L ts N v4 hF hI
    refine am_run hX 4 _ _ _ _ ?_
    conv => whnf
    rw [show (0 : Int64) = lI ((0 : Nat) : Int) from rfl, lgc (by decide) (by decide)]
    refine ⟨fun _ => ?_, fun z => absurd (Nat.le_refl _) z⟩
    obtain ⟨a, b, c', e, f, g, i⟩ := hI
    have g : L ++ [] = (syw ss0).map chr3 := g
    rw [List.append_nil] at g
    have i : ts + 0 = ss0.length := i
    subst g
    have : ts = ss0.length := by omega
    subst this
    exact hE N _ hF ⟨a, b, fun _ z => absurd rfl z, e, f, List.append_nil _, rfl⟩
  | cons s ss ih =>
    intro L ts N v4 hF hI
    obtain ⟨⟨w, hw, hq⟩, hn, h0, hf, ht, hL, hts⟩ := hI
    obtain ⟨s3, hn', hd'⟩ := nfS_c hn
    have hts' : ts + (ss.length + 1) = ss0.length := hts
    have LL : L.length ≤ 183 := by
      have := congrArg List.length hL
      rw [List.length_append] at this
      have := sl ss0
      omega
    obtain ⟨_, A, hA⟩ := nd_nf hq hk hn
    have lw : lvb w 69 := ⟨_, A, by show ss.length + 1 ≤ 69; omega, hA⟩
    -- the next round
    have nxt : ∀ (N1 : mm_M) (v : Option am_V), tofF N N1 → mxW (N1.2 186) 0 (tkW s ++ w) → frmL N1 (L ++ tkL s) → N1.1 108 130 = nI (ts + 1) → X 156 [some (aR 108), some (aI (nI c)), some (aJ (lI ((ss.length + 1 : Nat)))), none, v, none] [] N1 := by
      intro N1 v f1 o1 l1 t1
      refine am_run hX 5 _ _ _ _ ?_
      conv => whnf
      rw [lI_p]
      refine ih (L ++ tkL s) (ts + 1) N1 _ (tofF_t hF f1) ⟨⟨_, o1, tk_y hq s3⟩, hn', fun _ => hd', l1, t1, ?_, by omega⟩
      rw [← hL, List.append_assoc]
      show _ = L ++ ((sy s ++ syw ss).map chr3)
      rw [List.map_append]
      rfl
    have yes : ∀ (N1 : mm_M), tofF N N1 → mxW (N1.2 186) 0 (tkW s ++ w) → frmL N1 (L ++ tkL s) → N1.1 108 130 = nI (ts + 1) → X 149 [some (aR 108), some (aI (nI c)), some (aJ (lI ((ss.length + 1 : Nat)))), none, v4, none] [] N1 := by
      intro N1 f1 o1 l1 t1
      refine am_run hX 2 _ _ _ _ ?_
      conv => whnf
      refine am_run hX 1 _ _ _ _ ?_
      conv => whnf
      exact nxt N1 _ f1 o1 l1 t1
    have ndy : ndM (wk (tkW s ++ w)) (rw0 (tkW s ++ w)) (rw1 (tkW s ++ w)) = ss.length + 1 - 1 := by
      rw [(nd_nf (tk_y hq s3) hk hn').1]
      omega
    have ndn : ∀ how, how < s → ndM (wk (tkW how ++ w)) (rw0 (tkW how ++ w)) (rw1 (tkW how ++ w)) ≠ ss.length + 1 - 1 := fun how hh => by
      rw [(tk_n hq hk hn hh).1]
      omega
    -- syllable 2
    have try2 : ∀ N1, 2 ≤ s → tofF N N1 → mxW (N1.2 186) 0 w → frmL N1 L → N1.1 108 130 = nI ts → X 140 [some (aR 108), some (aI (nI c)), some (aJ (lI ((ss.length + 1 : Nat)))), none, v4, none] [] N1 := by
      intro N1 h2 f1 o1 l1 t1
      have : s = 2 := by omega
      subst this
      refine am_run hX 4 _ _ _ _ ?_
      conv => whnf
      refine am_cq (ct_tkOff (d := d) (M := N1) (how := 2) (m := ss.length + 1) (by decide) (by omega) lw (by omega) (by omega) o1 l1 t1) ?_
      rintro r2 N2 ⟨f2, ⟨z, rfl, o2, l2, t2⟩ | ⟨z, rfl, o2, l2, t2⟩⟩
      · refine ⟨_, rfl, ?_⟩
        refine am_run hX 1 _ _ _ _ ?_
        conv => whnf
        refine ⟨fun z => absurd z (by decide), fun _ => ?_⟩
        exact yes N2 (tofF_t f1 f2) o2 l2 t2
      · exact absurd ndy z
    have try1 : ∀ N1, 1 ≤ s → tofF N N1 → mxW (N1.2 186) 0 w → frmL N1 L → N1.1 108 130 = nI ts → X 131 [some (aR 108), some (aI (nI c)), some (aJ (lI ((ss.length + 1 : Nat)))), none, v4, none] [] N1 := by
      intro N1 h1 f1 o1 l1 t1
      refine am_run hX 4 _ _ _ _ ?_
      conv => whnf
      refine am_cq (ct_tkOff (d := d) (M := N1) (how := 1) (m := ss.length + 1) (by decide) (by omega) lw (by omega) (by omega) o1 l1 t1) ?_
      rintro r2 N2 ⟨f2, ⟨z, rfl, o2, l2, t2⟩ | ⟨z, rfl, o2, l2, t2⟩⟩
      · refine ⟨_, rfl, ?_⟩
        refine am_run hX 1 _ _ _ _ ?_
        conv => whnf
        refine ⟨fun _ => ?_, fun z => absurd (by decide) z⟩
        by_cases e : s = 1
        · subst e
          exact yes N2 (tofF_t f1 f2) o2 l2 t2
        · exact absurd z (ndn 1 (by omega))
      · refine ⟨_, rfl, ?_⟩
        refine am_run hX 1 _ _ _ _ ?_
        conv => whnf
        refine ⟨fun z => absurd rfl z, fun _ => ?_⟩
        by_cases e : s = 1
        · subst e
          exact absurd ndy z
        · exact try2 N2 (by omega) (tofF_t f1 f2) o2 l2 t2
    refine am_run hX 4 _ _ _ _ ?_
    conv => whnf
    rw [show (0 : Int64) = lI ((0 : Nat) : Int) from rfl, lgc (by show ss.length + 1 < _; omega) (by decide)]
    refine ⟨fun z => absurd z (by show ¬ ss.length + 1 ≤ 0; omega), fun _ => ?_⟩
    refine am_run hX 3 _ _ _ _ ?_
    conv => whnf
    rw [hf.1]
    by_cases Le : L = []
    · subst Le
      refine ⟨fun z => absurd rfl z, fun _ => ?_⟩
      refine am_run hX 4 _ _ _ _ ?_
      conv => whnf
      refine am_cq (ct_tkOff (d := d) (M := N) (how := 0) (m := ss.length + 1) (by decide) (by omega) lw (by decide) (by omega) hw hf ht) ?_
      rintro r2 N2 ⟨f2, ⟨z, rfl, o2, l2, t2⟩ | ⟨z, rfl, o2, l2, t2⟩⟩
      · refine ⟨_, rfl, ?_⟩
        refine am_run hX 1 _ _ _ _ ?_
        conv => whnf
        refine ⟨fun _ => ?_, fun z => absurd (by decide) z⟩
        by_cases e : s = 0
        · subst e
          exact yes N2 f2 o2 l2 t2
        · exact absurd z (ndn 0 (by omega))
      · refine ⟨_, rfl, ?_⟩
        refine am_run hX 1 _ _ _ _ ?_
        conv => whnf
        refine ⟨fun z => absurd rfl z, fun _ => ?_⟩
        by_cases e : s = 0
        · subst e
          exact absurd ndy z
        · exact try1 N2 (by omega) f2 o2 l2 t2
    · have ln : 0 < L.length := by
        cases L with
        | nil => exact absurd rfl Le
        | cons a L => exact Nat.succ_pos _
      have s0 : s ≠ 0 := h0 Le (fun z => by cases z)
      refine ⟨fun _ => try1 N (by omega) (tofF_r N) hw hf ht, fun z => absurd (nI_ne0 ln (by omega)) z⟩
set_option maxRecDepth 100000 in
theorem fr_lt {P : am_Q} {X : am_X} {c q : Nat} {L : List Nat} {w2 w3 : Option am_V} (hX : am_K (d + 5) false nm_X12_form P X) (hq : q < 24) (hA : kwA M q) (hL : L.length ≤ 200) (hf : frmL M L) (hE : ∀ N j, tofF M N → N.2 = M.2 → N.1 108 130 = M.1 108 130 → frmL N (L ++ (kw q).map chr3) → X 248 [some (aR 108), some (aI (nI c)), w2, w3, some (aI (nI q)), some (aI (nI j))] [] N) : ∀ (m j : Nat) (N : mm_M), j + m = (kw q).length → tofF M N → N.2 = M.2 → N.1 108 130 = M.1 108 130 → frmL N (L ++ ((kw q).take j).map chr3) → X 202 [some (aR 108), some (aI (nI c)), w2, w3, some (aI (nI q)), some (aI (nI j))] [] N := by
  obtain ⟨k1, k2, k3⟩ := kw_f q hq
  intro m
  induction m with
  | zero =>
    intro j N hj hF h2 h130 hl
    obtain rfl : j = (kw q).length := by omega
    refine am_run hX 6 _ _ _ _ ?_
    conv => whnf
    refine ⟨vp_in_nI (by show q < 24; omega) (by decide), ?_⟩
    conv => whnf
    rw [nI_clamp (n := q) (by omega), hF.1 192 (by decide) (by decide), hA.1]
    rw [List.take_length] at hl
    exact ⟨fun _ => hE N _ hF h2 h130 hl, fun z => absurd (nI_le (Nat.le_refl _) (by omega)) z⟩
  | succ m ih =>
    intro j N hj hF h2 h130 hl
    have jl : j < (kw q).length := by omega
    have e1 : 20 * nI q + nI j = nI (20 * q + j) := by rw [show (20 : Int32) = nI 20 from rfl, nI_mul, nI_add]
    have ll : (L ++ ((kw q).take j).map chr3).length < 1300 := by
      rw [List.length_append, List.length_map, List.length_take]
      omega
    have go : ∀ v : Int32, v = nI (chr3 ((kw q).getD j 0)) → X 239 [some (aR 108), some (aI (nI c)), w2, w3, some (aI (nI q)), some (aI (nI j))] [aI v, aR 108] N := by
      intro v hv
      refine am_run hX 1 _ _ _ _ ?_
      conv => whnf
      refine am_cq (ct_let (d := d + 4) (M := N) hv ll hl) ?_
      rintro r1 N1 ⟨rfl, f1, o1, s1, u1⟩
      refine ⟨none, rfl, ?_⟩
      refine am_run hX 2 _ _ _ _ ?_
      conv => whnf
      rw [nI_1]
      refine ih (j + 1) N1 (by omega) (tofF_t hF f1) (s1.trans h2) (u1.trans h130) ?_
      rw [tk_c jl, List.map_append, ← List.append_assoc]
      exact o1
    refine am_run hX 6 _ _ _ _ ?_
    conv => whnf
    refine ⟨vp_in_nI (by show q < 24; omega) (by decide), ?_⟩
    conv => whnf
    rw [nI_clamp (n := q) (by omega), hF.1 192 (by decide) (by decide), hA.1]
    refine ⟨fun z => absurd z (nI_ge (by omega) (by omega)), fun _ => ?_⟩
    refine am_run hX 11 _ _ _ _ ?_
    conv => whnf
    rw [e1]
    refine ⟨vp_in_nI (by show _ < 480; omega) (by decide), ?_⟩
    conv => whnf
    rw [nI_clamp (n := 20 * q + j) (by omega), hF.1 191 (by decide) (by decide), hA.2.1 j jl]
    rcases k3 j (by omega) jl with e | e
    · rw [e]
      refine ⟨fun z => absurd rfl z, fun _ => ?_⟩
      refine am_run hX 2 _ _ _ _ ?_
      conv => whnf
      exact go _ (by rw [e]; rfl)
    · rw [e]
      refine ⟨fun _ => ?_, fun z => absurd (by decide) z⟩
      refine am_run hX 1 _ _ _ _ ?_
      conv => whnf
      exact go _ (by rw [e]; rfl)
set_option maxRecDepth 100000 in
theorem fr_q {P : am_Q} {X : am_X} {c : Nat} {L : List Nat} {k : Nat × Nat} {z : Int64} (hX : am_K (d + 5) false nm_X12_form P X) (hk : gdK k) (hL : L.length ≤ 200) (hT : tbN M 24) (hf : frmL M L) (hw : ∃ w, mxW (M.2 186) 0 w ∧ weq w (cw k)) (hP : ∀ N, tofF M N → tbN N 24 → frmL N (L ++ (cw k).map chr3) → N.1 108 130 = M.1 108 130 → P (.inl (some (aI (nI (L ++ (cw k).map chr3).length)))) N) : ∀ (m q : Nat) (N : mm_M) (v5 : Option am_V), q + m = 24 → tofF M N → N.2 186 = M.2 186 → N.1 108 130 = M.1 108 130 → frmL N (if q ≤ kyN k then L else L ++ (cw k).map chr3) → X 166 [some (aR 108), some (aI (nI c)), some (aJ z), none, some (aI (nI q)), v5] [] N := by
  obtain ⟨w, hw, he⟩ := hw
  obtain ⟨kN, ek⟩ := kw_cw hk
  have lw : lvb w 70 := by
    obtain ⟨_, A, hA⟩ := nd_nf (ss := []) he hk (fun j hj => absurd hj (Nat.not_lt_zero _))
    exact ⟨0, A, by decide, hA⟩
  obtain ⟨L', x, y, L40, s, n1, n2, n3, n4⟩ := smal_b lw
  have p40 : (2 : Int) ^ 40 ≤ 2 ^ 120 := by decide
  have bx : ∀ i, i < 4 → bd (en x y i) := by
    intro i hi
    have : i = 0 ∨ i = 1 ∨ i = 2 ∨ i = 3 := by omega
    rcases this with rfl | rfl | rfl | rfl
    · exact nrm_b2 (by show nrm x.1 ≤ _; omega)
    · exact nrm_b2 (by show nrm x.2 ≤ _; omega)
    · exact nrm_b2 (by show nrm y.1 ≤ _; omega)
    · exact nrm_b2 (by show nrm y.2 ≤ _; omega)
  have elk : ∀ v p, lkB' L' x y (wk v) (rw0 v) (rw1 v) p = lkB' (wk w) (rw0 w) (rw1 w) (wk v) (rw0 v) (rw1 v) p := by
    intro v p
    obtain ⟨_, _, _, r1, r2, r3, r4⟩ := s
    have er : ∀ i, i < 4 → red L' (t8n p (en x y i)) = red (wk w) (t8n p (en (rw0 w) (rw1 w) i)) := by
      intro i hi
      rw [red_t8n, red_t8n]
      have : i = 0 ∨ i = 1 ∨ i = 2 ∨ i = 3 := by omega
      rcases this with rfl | rfl | rfl | rfl
      · show (t8n p (red L' x.1).1, (red L' x.1).2) = _
        rw [r1]
        rfl
      · show (t8n p (red L' x.2).1, (red L' x.2).2) = _
        rw [r2]
        rfl
      · show (t8n p (red L' y.1).1, (red L' y.1).2) = _
        rw [r3]
        rfl
      · show (t8n p (red L' y.2).1, (red L' y.2).2) = _
        rw [r4]
        rfl
    unfold lkB'
    simp only [allN, mLB]
    rw [er 0 (by decide), er 1 (by decide), er 2 (by decide), er 3 (by decide)]
  intro m
  induction m with
  | zero =>
    intro q N v5 hq hF h186 h130 hl
    obtain rfl : q = 24 := by omega
    rw [if_neg (by omega)] at hl
    have hT' := tbN_k hF hT
    refine am_run hX 4 _ _ _ _ ?_
    conv => whnf
    rw [hT'.1]
    refine ⟨fun _ => ?_, fun z => absurd (by decide) z⟩
    refine am_run hX 3 _ _ _ _ ?_
    conv => whnf
    rw [hl.1]
    exact ⟨trivial, hP N hF hT' hl h130⟩
  | succ m ih =>
    intro q N v5 hq hF h186 h130 hl
    have q24 : q < 24 := by omega
    have hT' := tbN_k hF hT
    obtain ⟨k1, k2, _⟩ := kw_f q q24
    have e1 : 20 * nI q = nI (20 * q) := by rw [show (20 : Int32) = nI 20 from rfl, nI_mul]
    have hlk := lk_cw hk he q24
    refine am_run hX 4 _ _ _ _ ?_
    conv => whnf
    rw [hT'.1]
    refine ⟨fun z => absurd z (nI_ge (a := q) (b := 24) q24 (by decide)), fun _ => ?_⟩
    refine am_run hX 10 _ _ _ _ ?_
    conv => whnf
    rw [e1]
    refine am_cq (ct_lk186 (d := d + 3) (M := N) (a := 20 * q) (K := L') (L := wk (kw q)) (x := x) (y := y) (x' := rw0 (kw q)) (y' := rw1 (kw q)) (by omega) (by omega) (by omega) (by rw [h186]; exact (mx_sm s).mp hw) (hT'.2 q q24).2.2 bx (bd_w (by omega))) ?_
    rintro r1 N1 ⟨f1, ⟨rfl, p, hp, hz⟩ | ⟨rfl, hz⟩⟩
    · rw [elk] at hz
      have : lkW w (kw q) = true := (an_iff 8).mpr ⟨p, hp, hz⟩
      rw [hlk] at this
      have eq := of_decide_eq_true this
      refine ⟨_, rfl, ?_⟩
      refine am_run hX 1 _ _ _ _ ?_
      conv => whnf
      refine ⟨fun _ => ?_, fun z => absurd (by decide) z⟩
      rw [if_pos (by omega)] at hl
      refine am_run hX 2 _ _ _ _ ?_
      conv => whnf
      have F1 : tofF M N1 := tofF_t hF (tofF_o f1)
      refine fr_lt (d := d) (M := N1) (c := c) (q := q) (L := L) hX q24 ((tbN_k F1 hT).2 q q24) hL (frmL_f f1.1 hl) (fun N2 j f2 s2 u2 l2 => ?_) (kw q).length 0 N1 (by omega) (tofF_r N1) rfl rfl (by rw [List.take_zero, List.map_nil, List.append_nil]; exact frmL_f f1.1 hl)
      refine am_run hX 2 _ _ _ _ ?_
      conv => whnf
      rw [nI_1]
      refine ih (q + 1) N2 _ (by omega) (tofF_t F1 f2) (by rw [s2, f1.2 186 (by decide) (by decide) (by decide), h186]) (by rw [u2, f1.1, h130]) ?_
      rw [if_neg (by omega), ek, eq]
      exact l2
    · have : lkW w (kw q) = false := by
        cases h2 : lkW w (kw q) with
        | false => rfl
        | true =>
          obtain ⟨p, hp, h3⟩ := (an_iff 8).mp h2
          rw [← elk, hz p hp] at h3
          exact absurd h3 (by decide)
      rw [hlk] at this
      have ne := of_decide_eq_false this
      refine ⟨_, rfl, ?_⟩
      refine am_run hX 1 _ _ _ _ ?_
      conv => whnf
      refine ⟨fun z => absurd rfl z, fun _ => ?_⟩
      refine am_run hX 1 _ _ _ _ ?_
      conv => whnf
      refine am_run hX 2 _ _ _ _ ?_
      conv => whnf
      rw [nI_1]
      refine ih (q + 1) N1 _ (by omega) (tofF_t hF (tofF_o f1)) (by rw [f1.2 186 (by decide) (by decide) (by decide), h186]) (by rw [f1.1, h130]) ?_
      by_cases z : q ≤ kyN k
      · rw [if_pos z] at hl
        rw [if_pos (by omega)]
        exact frmL_f f1.1 hl
      · rw [if_neg z] at hl
        rw [if_neg (by omega)]
        exact frmL_f f1.1 hl
set_option maxRecDepth 200000 in
theorem fr_t {P : am_Q} {X : am_X} {c : Nat} {l : List bk_X} (hX : am_K (d + 5) false nm_X12_form P X) (hc : c < 20) (h111 : M.1 111 c = nI l.length) (l300 : l.length ≤ 300) (h112 : ∀ j, j < l.length → M.1 112 (300 * c + j) = nI (zg l j).1) (hk8 : ∀ j, j < l.length → (zg l j).1 < 8) (hh : wk (kdR l l.length) ≤ 60) (hI : fcI M) (hP : ∀ N, frF M N → tbN N 24 → frmL N (fmW (kdR l l.length)) → N.1 108 130 = nI (fmR (kdR l l.length) ([], (1, 2))).1.length → P (.inl (some (aI (nI (fmW (kdR l l.length)).length)))) N) : X 33 [some (aR 108), some (aI (nI c)), none, none, none, none] [] M := by
  have hw8 : ∀ g ∈ kdR l l.length, g < 8 := by
    intro g hg
    unfold kdR at hg
    obtain ⟨i, hi, rfl⟩ := List.mem_map.mp (List.mem_reverse.mp hg)
    exact hk8 i (List.mem_range.mp hi)
  obtain ⟨i1, i2, i3, i4⟩ := fmI_w hw8
  have h61 : (fmR (kdR l l.length) ([], (1, 2))).1.length ≤ 61 := by
    have := nzc_l _ i3
    omega
  refine am_run hX 2 _ _ _ _ ?_
  conv => whnf
  refine am_cq (ct_fC (d := d) hI) ?_
  rintro r1 N1 ⟨rfl, f1, T1⟩
  refine ⟨none, rfl, ?_⟩
  refine am_run hX 5 _ _ _ _ ?_
  conv => whnf
  refine am_cq (ct_un186 (d := d + 4) (M := N1)) ?_
  rintro r2 N2 ⟨rfl, f2, o2, _⟩
  refine ⟨none, rfl, ?_⟩
  refine am_run hX 4 _ _ _ _ ?_
  conv => whnf
  rw [show (300 : Int32) * nI c = nI (300 * c + 0) from by rw [show (300 : Int32) = nI 300 from rfl, nI_mul]; rfl]
  have E2 : ∀ k, k = 111 ∨ k = 112 → N2.1 k = M.1 k := fun k hk => by rw [f2.1, f1.1 k (by omega) (by omega) (by omega)]
  refine fr_w (d := d + 2) (M := N2) (c := c) (l := l) hX hc (by rw [E2 111 (by omega)]; exact h111) l300 (fun j hj => by rw [E2 112 (by omega)]; exact h112 j hj) hk8 hh (fun N3 f3 o3 => ?_) l.length 0 N2 (by omega) (lfF_r 186 N2) o2 (Nat.zero_le _)
  have T2 : tofF N1 N3 := tofF_t (tofF_k (by decide) f2) (tofF_l (by decide) f3)
  refine am_run hX 3 _ _ _ _ ?_
  conv => whnf
  generalize hN4 : mm_i N3 108 _ = N4
  have a1 : ∀ k, k ≠ 108 → N4.1 k = N3.1 k := fun k hk => by rw [← hN4, mm_ne _ _ _ _ hk]
  have a2 : N4.1 108 = upd (N3.1 108) 129 0 := by rw [← hN4, mm_i1]
  have a3 : N4.2 = N3.2 := by rw [← hN4]; rfl
  refine am_run hX 3 _ _ _ _ ?_
  conv => whnf
  generalize hN5 : mm_i N4 108 _ = N5
  have b1 : ∀ k, k ≠ 108 → N5.1 k = N4.1 k := fun k hk => by rw [← hN5, mm_ne _ _ _ _ hk]
  have b2 : N5.1 108 = upd (N4.1 108) 130 0 := by rw [← hN5, mm_i1]
  have b3 : N5.2 = N4.2 := by rw [← hN5]; rfl
  have T5 : tofF N1 N5 := tofF_t T2 ⟨fun k a _ => by rw [b1 k a, a1 k a], fun y a b => by rw [b2, up_ne b, a2, up_ne a], fun k _ _ _ _ _ => by rw [b3, a3]⟩
  have o5 : mxW (N5.2 186) 0 (kdR l l.length) := by rw [b3, a3]; exact o3
  obtain ⟨nd, A, hA⟩ := nd_nf i1 i2 i3
  have lw : lvb (kdR l l.length) 70 := ⟨_, A, by omega, hA⟩
  refine am_run hX 5 _ _ _ _ ?_
  conv => whnf
  refine am_cq (ct_ndW186 (d := d + 1) (M := N5) lw o5) ?_
  rintro r6 N6 ⟨rfl, f6⟩
  refine ⟨_, rfl, ?_⟩
  rw [nd]
  have T6 : tofF N1 N6 := tofF_t T5 (tofF_n f6)
  refine am_run hX 1 _ _ _ _ ?_
  conv => whnf
  refine frs_1 (d := d) (M := N1) (c := c) (ss0 := (fmR (kdR l l.length) ([], (1, 2))).1) (k := (fmR (kdR l l.length) ([], (1, 2))).2) hX i2 h61 (fun N7 w4 T7 I7 => ?_) _ [] 0 N6 _ T6 ⟨⟨_, by rw [f6.2 186 (by decide) (by decide) (by decide) (by decide)]; exact o5, i1⟩, i3, fun z => absurd rfl z, ⟨?_, fun j hj => absurd hj (Nat.not_lt_zero _)⟩, ?_, rfl, by omega⟩
  · refine am_run hX 2 _ _ _ _ ?_
    conv => whnf
    obtain ⟨hw, _, _, hf, ht, _, _⟩ := I7
    have L200 : ((syw (fmR (kdR l l.length) ([], (1, 2))).1).map chr3).length ≤ 200 := by
      have sl : ∀ l : List Nat, ((syw l).map chr3).length ≤ 3 * l.length := by
        intro l
        induction l with
        | nil => exact Nat.le_refl _
        | cons s l ih =>
          have a : ((sy s).map chr3).length ≤ 3 := by
            unfold sy
            split
            · exact (by decide : 1 ≤ 3)
            · split
              · exact (by decide : 2 ≤ 3)
              · exact (by decide : 3 ≤ 3)
          show ((sy s ++ syw l).map chr3).length ≤ 3 * (l.length + 1)
          rw [List.map_append, List.length_append]
          omega
      have := sl (fmR (kdR l l.length) ([], (1, 2))).1
      omega
    have eW : (syw (fmR (kdR l l.length) ([], (1, 2))).1).map chr3 ++ (cw (fmR (kdR l l.length) ([], (1, 2))).2).map chr3 = fmW (kdR l l.length) := by
      unfold fmW
      rw [List.map_append]
    refine fr_q (d := d) (M := N7) (c := c) (L := (syw (fmR (kdR l l.length) ([], (1, 2))).1).map chr3) (k := (fmR (kdR l l.length) ([], (1, 2))).2) hX i2 L200 (tbN_k T7 T1) hf hw (fun N8 T8 t8 l8 u8 => ?_) 24 0 N7 _ (by omega) (tofF_r N7) rfl rfl (by rw [if_pos (Nat.zero_le _)]; exact hf)
    rw [eW] at l8 ⊢
    exact hP N8 (frF_t (frF_c f1) (frF_k (tofF_t T7 T8))) t8 l8 (by rw [u8]; exact ht)
  · rw [f6.1, b2, up_ne (by decide), a2]
    exact up_at
  · rw [f6.1, b2]
    exact up_at
end FMP
