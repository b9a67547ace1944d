/-! derive: the reference lays, how by how -/
section DVH
variable {d : Nat} {M : mm_M} {n c W c' W' : Nat} {q : Int32} {l l' : List bk_X} {P : am_Q} {X : am_X} {v4 : Int32} {Fq : mm_M → Prop}
/-- laid, one behind another -/
theorem lay_n (L : List bk_X) : mqF n M (llM M n L) ∧ lfn (llM M n L) n L := ⟨mqF_l L, llw_n (llw_l M n L)⟩
set_option maxRecDepth 100000 in
theorem dv_r0 (hX : am_K (d + 7) false nm_X12_derive P X) (hn : n < 20) (hc : c < n) (h6 : M.1 108 6 = nI n) (h110 : M.1 110 c = nI W) (hl : opsL M c W l) (hq : ∀ N, mqF n M N → Fq N) (hFq : ∀ N, Fq N → dvrF n M N) (K1 : okL ((l.map ivX).reverse) → ∀ N, Fq N → lfn N n ((l.map ivX).reverse) → P (.inl (some (aI (nI n)))) (stM N n W)) (K0 : ¬ okL ((l.map ivX).reverse) → ∀ N, Fq N → P (.inl (some (aI (-1)))) N) : X 162 [some (aR 108), some (aI 0), some (aI (nI c)), some (aI q), some (aI v4)] [] M := by
  have key := ct_ci (d := d + 5) (M := M) (l0 := []) h6 hn hc hl
  rw [List.nil_append] at key
  refine am_run hX 2 _ _ _ _ ?_
  conv => whnf
  refine am_c0 (ct_stLL (d := d + 6) (n := n)) ?_
  refine am_run hX 3 _ _ _ _ ?_
  conv => whnf
  refine ⟨fun _ => ?_, fun z => absurd (by decide) z⟩
  refine am_run hX 3 _ _ _ _ ?_
  conv => whnf
  refine ⟨fun _ => ?_, fun z => absurd (by decide) z⟩
  refine am_run hX 4 _ _ _ _ ?_
  conv => whnf
  refine ⟨fun z => absurd rfl z, fun _ => ?_⟩
  refine am_run hX 5 _ _ _ _ ?_
  conv => whnf
  refine ⟨fun _ => ?_, fun z => absurd (by decide) z⟩
  refine am_run hX 2 _ _ _ _ ?_
  conv => whnf
  refine am_c0 key ?_
  refine am_run hX 3 _ _ _ _ ?_
  conv => whnf
  refine ⟨fun _ => ?_, fun z => absurd (by decide) z⟩
  refine am_run hX 3 _ _ _ _ ?_
  conv => whnf
  refine ⟨fun _ => ?_, fun z => absurd (by decide) z⟩
  obtain ⟨a, b⟩ := lay_n (M := M) (n := n) ((l.map ivX).reverse)
  exact dv_e3 (d := d) (M := M) hX hn hc h6 h110 rfl hFq K1 K0 (hq _ a) b
set_option maxRecDepth 100000 in
theorem dv_r1 (hX : am_K (d + 7) false nm_X12_derive P X) (hn : n < 20) (hc : c < n) (hc' : c' < n) (h6 : M.1 108 6 = nI n) (h110 : M.1 110 c = nI W) (hl : opsL M c W l) (hl' : opsL M c' W' l') (hq : ∀ N, mqF n M N → Fq N) (hFq : ∀ N, Fq N → dvrF n M N) (K1 : okL (l ++ l') → ∀ N, Fq N → lfn N n (l ++ l') → P (.inl (some (aI (nI n)))) (stM N n W)) (K0 : ¬ okL (l ++ l') → ∀ N, Fq N → P (.inl (some (aI (-1)))) N) : X 162 [some (aR 108), some (aI 1), some (aI (nI c)), some (aI (nI c')), some (aI v4)] [] M := by
  have key := ct_copy (d := d + 5) (M := M) (l0 := []) h6 hn hc hl
  rw [List.nil_append] at key
  have key2 := ct_copy (d := d + 5) (M := M) (l0 := l) h6 hn hc' hl'
  refine am_run hX 2 _ _ _ _ ?_
  conv => whnf
  refine am_c0 (ct_stLL (d := d + 6) (n := n)) ?_
  refine am_run hX 3 _ _ _ _ ?_
  conv => whnf
  refine ⟨fun _ => ?_, fun z => absurd (by decide) z⟩
  refine am_run hX 3 _ _ _ _ ?_
  conv => whnf
  refine ⟨fun _ => ?_, fun z => absurd (by decide) z⟩
  refine am_run hX 4 _ _ _ _ ?_
  conv => whnf
  refine ⟨fun _ => ?_, fun z => absurd (by decide) z⟩
  refine am_run hX 4 _ _ _ _ ?_
  conv => whnf
  refine ⟨fun _ => ?_, fun z => absurd (by decide) z⟩
  refine am_run hX 2 _ _ _ _ ?_
  conv => whnf
  refine am_c0 key ?_
  refine am_run hX 3 _ _ _ _ ?_
  conv => whnf
  refine ⟨fun z => absurd rfl z, fun _ => ?_⟩
  refine am_run hX 5 _ _ _ _ ?_
  conv => whnf
  refine am_c0 key2 ?_
  refine am_run hX 3 _ _ _ _ ?_
  conv => whnf
  refine ⟨fun _ => ?_, fun z => absurd (by decide) z⟩
  obtain ⟨a, b⟩ := lay_n (M := M) (n := n) (l ++ l')
  exact dv_e3 (d := d) (M := M) hX hn hc h6 h110 rfl hFq K1 K0 (hq _ a) b
set_option maxRecDepth 100000 in
theorem dv_r2 (hX : am_K (d + 7) false nm_X12_derive P X) (hn : n < 20) (hc : c < n) (h6 : M.1 108 6 = nI n) (h110 : M.1 110 c = nI W) (w7 : W ≤ 7) (hl : opsL M c W l) (hq : ∀ N, mqF n M N → Fq N) (hFq : ∀ N, Fq N → dvrF n M N) (K1 : okL (l.map (adX W)) → ∀ N, Fq N → lfn N n (l.map (adX W)) → P (.inl (some (aI (nI n)))) (stM N n (W + 1))) (K0 : ¬ okL (l.map (adX W)) → ∀ N, Fq N → P (.inl (some (aI (-1)))) N) : X 162 [some (aR 108), some (aI 2), some (aI (nI c)), some (aI q), some (aI v4)] [] M := by
  have key := ct_copyC (d := d + 5) (M := M) (l0 := []) h6 hn hc hl w7
  rw [List.nil_append] at key
  have e110 : (llM M n []).1 110 c = nI W := by rw [ll_r _ _ _ (by decide) (by omega)]; exact h110
  refine am_run hX 2 _ _ _ _ ?_
  conv => whnf
  refine am_c0 (ct_stLL (d := d + 6) (n := n)) ?_
  refine am_run hX 3 _ _ _ _ ?_
  conv => whnf
  refine ⟨fun _ => ?_, fun z => absurd (by decide) z⟩
  refine am_run hX 3 _ _ _ _ ?_
  conv => whnf
  refine ⟨fun _ => ?_, fun z => absurd (by decide) z⟩
  refine am_run hX 4 _ _ _ _ ?_
  conv => whnf
  refine ⟨fun _ => ?_, fun z => absurd (by decide) z⟩
  refine am_run hX 4 _ _ _ _ ?_
  conv => whnf
  refine ⟨fun z => absurd rfl z, fun _ => ?_⟩
  refine am_run hX 8 _ _ _ _ ?_
  conv => whnf
  refine ⟨vp_in_nI (by show c < 21; omega) (by decide), ?_⟩
  conv => whnf
  rw [nI_clamp (n := c) (by omega), e110, sh2 W (by omega)]
  refine am_c0 key ?_
  refine am_run hX 3 _ _ _ _ ?_
  conv => whnf
  refine ⟨fun _ => ?_, fun z => absurd (by decide) z⟩
  refine am_run hX 3 _ _ _ _ ?_
  conv => whnf
  refine ⟨fun _ => ?_, fun z => absurd (by decide) z⟩
  obtain ⟨a, b⟩ := lay_n (M := M) (n := n) (l.map (adX W))
  exact dv_e3 (d := d) (M := M) hX hn hc h6 h110 rfl hFq K1 K0 (hq _ a) b
set_option maxRecDepth 100000 in
theorem dv_r3 (hX : am_K (d + 7) false nm_X12_derive P X) (hn : n < 20) (hc : c < n) (hc' : c' < n) (h6 : M.1 108 6 = nI n) (h110 : M.1 110 c = nI W) (hl : opsL M c W l) (hl' : opsL M c' W' l') (hq : ∀ N, mqF n M N → Fq N) (hFq : ∀ N, Fq N → dvrF n M N) (K1 : okL (l' ++ l ++ (l'.map ivX).reverse) → ∀ N, Fq N → lfn N n (l' ++ l ++ (l'.map ivX).reverse) → P (.inl (some (aI (nI n)))) (stM N n W)) (K0 : ¬ okL (l' ++ l ++ (l'.map ivX).reverse) → ∀ N, Fq N → P (.inl (some (aI (-1)))) N) : X 162 [some (aR 108), some (aI 3), some (aI (nI c)), some (aI (nI c')), some (aI v4)] [] M := by
  have key := ct_copy (d := d + 5) (M := M) (l0 := []) h6 hn hc' hl'
  rw [List.nil_append] at key
  have key2 := ct_copy (d := d + 5) (M := M) (l0 := l') h6 hn hc hl
  have key3 := ct_ci (d := d + 5) (M := M) (l0 := l' ++ l) h6 hn hc' hl'
  refine am_run hX 2 _ _ _ _ ?_
  conv => whnf
  refine am_c0 (ct_stLL (d := d + 6) (n := n)) ?_
  refine am_run hX 3 _ _ _ _ ?_
  conv => whnf
  refine ⟨fun _ => ?_, fun z => absurd (by decide) z⟩
  refine am_run hX 3 _ _ _ _ ?_
  conv => whnf
  refine ⟨fun z => absurd rfl z, fun _ => ?_⟩
  refine am_run hX 5 _ _ _ _ ?_
  conv => whnf
  refine am_c0 key ?_
  refine am_run hX 4 _ _ _ _ ?_
  conv => whnf
  refine ⟨fun _ => ?_, fun z => absurd (by decide) z⟩
  refine am_run hX 4 _ _ _ _ ?_
  conv => whnf
  refine ⟨fun _ => ?_, fun z => absurd (by decide) z⟩
  refine am_run hX 2 _ _ _ _ ?_
  conv => whnf
  refine am_c0 key2 ?_
  refine am_run hX 3 _ _ _ _ ?_
  conv => whnf
  refine ⟨fun _ => ?_, fun z => absurd (by decide) z⟩
  refine am_run hX 3 _ _ _ _ ?_
  conv => whnf
  refine ⟨fun z => absurd rfl z, fun _ => ?_⟩
  refine am_run hX 5 _ _ _ _ ?_
  conv => whnf
  refine am_c0 key3 ?_
  conv => whnf
  obtain ⟨a, b⟩ := lay_n (M := M) (n := n) (l' ++ l ++ (l'.map ivX).reverse)
  exact dv_e3 (d := d) (M := M) hX hn hc h6 h110 rfl hFq K1 K0 (hq _ a) b
set_option maxRecDepth 100000 in
theorem dv_r4 (hX : am_K (d + 7) false nm_X12_derive P X) (hn : n < 20) (hc : c < n) (h6 : M.1 108 6 = nI n) (h110 : M.1 110 c = nI W) (hW : W ≤ 8) (hl : opsL M c W l) (ho : allO W l) (hq : ∀ N, mqF n M N → Fq N) (hFq : ∀ N, Fq N → dvrF n M N) (K1 : okL (mgL (zg l) l.length l.length) → ∀ N, Fq N → lfn N n (mgL (zg l) l.length l.length) → P (.inl (some (aI (nI n)))) (stM N n W)) (K0 : ¬ okL (mgL (zg l) l.length l.length) → ∀ N, Fq N → P (.inl (some (aI (-1)))) N) : X 162 [some (aR 108), some (aI 4), some (aI (nI c)), some (aI q), some (aI v4)] [] M := by
  have hF0 := mqF_l (n := n) (M := M) []
  refine am_run hX 2 _ _ _ _ ?_
  conv => whnf
  refine am_c0 (ct_stLL (d := d + 6) (n := n)) ?_
  refine am_run hX 3 _ _ _ _ ?_
  conv => whnf
  refine ⟨fun z => absurd z (by decide), fun _ => ?_⟩
  refine am_run hX 3 _ _ _ _ ?_
  conv => whnf
  refine ⟨fun z => absurd rfl z, fun _ => ?_⟩
  refine am_run hX 4 _ _ _ _ ?_
  conv => whnf
  refine am_cq (ct_mergeR (d := d + 3) (M := llM M n []) (n := n) (c := c) (W := W) (l := l) hc hn (by rw [hF0.2.2.1 6 (by decide) (by decide) (by decide)]; exact h6) hW (by rw [hF0.1 111 (by decide) (by omega) (by omega)]; exact hl.2.1) hl.2.2.1 (mq_op hc hl.2.2.1 hF0 (fun j hj => ops_r hl hj)) ho (llw_l M n [])) fun r1 N1 hq => ?_
  obtain ⟨rfl, f1, g1⟩ := hq
  refine ⟨none, rfl, ?_⟩
  conv => whnf
  exact dv_e2 (d := d) (M := M) hX hn hc h6 h110 hFq K1 K0 (hq _ (mqF_t hF0 f1)) (llw_n g1)
theorem ll_ops {k : List bk_X} (hc : c < n) (hl : opsL M c W l) : opsL (llM M n k) c W l := by
  have hF0 := mqF_l (n := n) (M := M) k
  obtain ⟨a1, a2, a3, a4⟩ := hl
  refine ⟨by rw [hF0.1 11 (by decide) (by omega) (by omega)]; exact a1, by rw [hF0.1 111 (by decide) (by omega) (by omega)]; exact a2, a3, fun j hj => ⟨(a4 j hj).1, ?_⟩⟩
  have h := (a4 j hj).2
  unfold bk_o at h ⊢
  rw [hF0.1 10 (by decide) (by omega) (by omega), hF0.2.2.2 112 _ (by decide) (by decide) (by omega), hF0.2.2.2 113 _ (by decide) (by decide) (by omega), hF0.2.2.2 114 _ (by decide) (by decide) (by omega), hF0.2.2.2 115 _ (by decide) (by decide) (by omega), hF0.2.2.2 116 _ (by decide) (by decide) (by omega), hF0.2.2.2 117 _ (by decide) (by decide) (by omega)]
  exact h
set_option maxRecDepth 100000 in
theorem dv_r5 (hX : am_K (d + 7) false nm_X12_derive P X) (hn : n < 20) (hc : c < n) (h6 : M.1 108 6 = nI n) (h110 : M.1 110 c = nI W) (hW : W ≤ 8) (hl : opsL M c W l) (hok : okL l) (ho : allO W l) (hq : ∀ N, mqF n M N → Fq N) (hFq : ∀ N, Fq N → dvrF n M N) (K1 : okL (cnN 300 l) → ∀ N, Fq N → lfn N n (cnN 300 l) → P (.inl (some (aI (nI n)))) (stM N n W)) (K0 : ¬ okL (cnN 300 l) → ∀ N, Fq N → P (.inl (some (aI (-1)))) N) : X 162 [some (aR 108), some (aI 5), some (aI (nI c)), some (aI q), some (aI v4)] [] M := by
  have hF0 := mqF_l (n := n) (M := M) []
  refine am_run hX 2 _ _ _ _ ?_
  conv => whnf
  refine am_c0 (ct_stLL (d := d + 6) (n := n)) ?_
  refine am_run hX 3 _ _ _ _ ?_
  conv => whnf
  refine ⟨fun z => absurd z (by decide), fun _ => ?_⟩
  refine am_run hX 3 _ _ _ _ ?_
  conv => whnf
  refine ⟨fun _ => ?_, fun z => absurd (by decide) z⟩
  refine am_run hX 3 _ _ _ _ ?_
  conv => whnf
  refine ⟨fun z => absurd rfl z, fun _ => ?_⟩
  refine am_run hX 4 _ _ _ _ ?_
  conv => whnf
  refine am_cq (ct_canR (d := d + 3) (M := llM M n []) (n := n) (c := c) (W := W) (l := l) (by rw [hF0.2.2.1 6 (by decide) (by decide) (by decide)]; exact h6) hn hc hW (ll_ops hc hl) hok ho (llw_l M n [])) fun r1 N1 hq => ?_
  obtain ⟨rfl, f1, g1⟩ := hq
  refine ⟨none, rfl, ?_⟩
  conv => whnf
  exact dv_e2 (d := d) (M := M) hX hn hc h6 h110 hFq K1 K0 (hq _ (mqF_t hF0 f1)) g1
set_option maxRecDepth 100000 in
theorem dv_r6 {L : List bk_X} (hX : am_K (d + 7) false nm_X12_derive P X) (hn : n < 20) (hc : c < n) (h6 : M.1 108 6 = nI n) (h110 : M.1 110 c = nI W) (hS : am_M (d + 7) false nm_X12_layShortest [aR 108, aI (nI c)] (llM M n []) (fun r N => r = .inl none ∧ Fq N ∧ lfn N n L)) (hFq : ∀ N, Fq N → dvrF n M N) (K1 : okL L → ∀ N, Fq N → lfn N n L → P (.inl (some (aI (nI n)))) (stM N n W)) (K0 : ¬ okL L → ∀ N, Fq N → P (.inl (some (aI (-1)))) N) : X 162 [some (aR 108), some (aI 6), some (aI (nI c)), some (aI q), some (aI v4)] [] M := by
  refine am_run hX 2 _ _ _ _ ?_
  conv => whnf
  refine am_c0 (ct_stLL (d := d + 6) (n := n)) ?_
  refine am_run hX 3 _ _ _ _ ?_
  conv => whnf
  refine ⟨fun z => absurd z (by decide), fun _ => ?_⟩
  refine am_run hX 3 _ _ _ _ ?_
  conv => whnf
  refine ⟨fun _ => ?_, fun z => absurd (by decide) z⟩
  refine am_run hX 3 _ _ _ _ ?_
  conv => whnf
  refine ⟨fun _ => ?_, fun z => absurd (by decide) z⟩
  refine am_run hX 3 _ _ _ _ ?_
  conv => whnf
  refine am_cq hS fun r1 N1 hq => ?_
  obtain ⟨rfl, f1, g1⟩ := hq
  refine ⟨none, rfl, ?_⟩
  conv => whnf
  exact dv_e2 (d := d) (M := M) hX hn hc h6 h110 hFq K1 K0 f1 g1
end DVH
