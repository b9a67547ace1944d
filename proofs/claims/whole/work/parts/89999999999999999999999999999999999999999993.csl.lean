/-! circuit: the reference lays all -/
section CSL
variable {d : Nat} {M : mm_M}
set_option maxRecDepth 100000 in
theorem lo_1 {b : Nat} (hA : laC b) : loC (b + 1) := by
  intro M n tl k Q Tw R bs q S lv inv h m f rb wd O D hB hT pl hE s2 s3 hb hl hv hr hD
  obtain ⟨E, rfl⟩ : ∃ E, D = E + 3 := ⟨D - 3, by omega⟩
  obtain ⟨e, B⟩ := S
  obtain ⟨⟨h6, n20⟩, ⟨t4, k4⟩, hQ⟩ := hB
  have hB : lyB M n tl k Q Tw R := ⟨⟨h6, n20⟩, ⟨t4, k4⟩, hQ⟩
  obtain ⟨nd, tB⟩ := trH_0 hT
  have jl : (jn (e, B)).length = B.length + 1 := rfl
  have q4 : q < 401 := by omega
  have ix : vp_in (nI q) 401 := vp_in_nI q4 (by decide)
  have cl : (nI q).toNatClampNeg = q := nI_clamp (by omega)
  have nd' := nd
  obtain ⟨n0, _, n2, n3, n4, n5, n6⟩ := nd'
  have z : ∀ k, k ≠ 108 → ¬ (112 ≤ k ∧ k ≤ 117) → (llM M n O).1 k = M.1 k := fun k a b => ll_r _ _ _ a b
  refine ⟨rfl, rfl, rfl, fun X hX => ?_⟩
  rcases hE with ⟨kk, bk, cs, ws, rfl, k8, k6, k7, wl, ek⟩ | ⟨l, bk, cs, ws, rfl, l4, lz, wl, ek, le⟩ | ⟨kk, w, bb, rfl, rbf, k9, ww⟩ | ⟨kk, qq, rfl, hk⟩ | ⟨l, kk, rfl, rbf⟩
  · refine lo_p (d := E + 1) hX q4 t4 (by omega) hv nd (fun w hw => ek.2 w (List.mem_append.mpr (Or.inl hw))) (fun fw a1 a2 a3 => ?_)
    refine lo_G (d := E) (tl := tl) (k := kk) (bk := bk) (cs := cs) hX h6 n20 q4 t4 (by omega) hv n0 k8 wl (fun w hw => ek.2 w (List.mem_append.mpr (Or.inr hw))) a2 a3 ⟨rfl, M, mpF_r lv M, ?_⟩
    unfold ou1
    rw [show jtO R (evG kk bk cs ws) (jtF R B) = [evX (0, 0) (evG kk bk cs ws)] from rfl, ouL_g]
  · refine lo_p (d := E + 1) hX q4 t4 (by omega) hv nd (fun w hw => ek.2 w (List.mem_append.mpr (Or.inl hw))) (fun fw a1 a2 a3 => ?_)
    obtain ⟨rD, T4, hx⟩ := hQ l l4 lz
    have wm : ∀ i, i < Tw l → ws.getD i 0 < wd := fun i hi => ek.2 _ (List.mem_append.mpr (Or.inr (gdd_m (by omega))))
    have il : vp_in (nI l) 4 := vp_in_nI l4 (by decide)
    have cll : (nI l).toNatClampNeg = l := nI_clamp (by omega)
    rw [show wtE (evU l bk cs ws) = 11 from rfl]
    refine am_run hX 1 _ _ _ _ ?_
    conv => whnf
    refine ⟨fun y => absurd y (by decide), fun _ => ?_⟩
    conv => whnf
    refine ⟨fun y => absurd y (by decide), fun _ => ?_⟩
    conv => whnf
    refine ⟨fun _ => ?_, fun y => absurd rfl y⟩
    refine am_run hX 2 _ _ _ _ ?_
    conv => whnf
    have key := lo_u (d := E + 1) (M := M) (n := n) (O := O) (f := f) (cs := cs) (ws := ws) (q := q) (lv := lv) (tl := tl) (fw := fw) (vi := b01 inv) (vh := nI h) (m1 := nI m.1) (m0 := nI m.2) (va := nI (h ||| mpM f (mskL cs))) (v9 := b01 (inv != bk)) hX q4 t4 (by omega) hv (by omega) (fun w hw => ek.2 w (List.mem_append.mpr (Or.inr hw))) n2 n3 a2 a3 (fun v => ?_) ws.length 0 (by omega)
    · rw [um_0] at key
      exact key
    have uF := um_F M lv f ws ws.length
    have uA := fun i (hi : i < ws.length) => um_at M lv f ws (i := i) (K := ws.length) hi
    generalize umM M lv f ws ws.length = M2 at *
    have z2 : ∀ k, k ≠ 108 → ¬ (112 ≤ k ∧ k ≤ 117) → k ≠ 131 → (llM M2 n O).1 k = M.1 k := fun k a b c => by rw [ll_r _ _ _ a b]; exact uF.1 k c
    have e5 : M.1 125 q = nI l := n5 (by show ¬ (1 = 4); decide)
    refine am_run hX 7 _ _ _ _ ?_
    conv => whnf
    refine ⟨ix, ?_⟩
    rw [cl, z2 125 (by decide) (by decide) (by decide), e5]
    refine am_run hX 1 _ _ _ _ ?_
    conv => whnf
    refine ⟨il, ?_⟩
    rw [cll, z2 129 (by decide) (by decide) (by decide), rD.1]
    refine am_run hX 6 _ _ _ _ ?_
    conv => whnf
    refine ⟨ix, ?_⟩
    rw [cl, z2 125 (by decide) (by decide) (by decide), e5]
    refine am_run hX 1 _ _ _ _ ?_
    conv => whnf
    refine ⟨il, ?_⟩
    rw [cll, z2 130 (by decide) (by decide) (by decide), rD.2.1]
    refine am_run hX 8 _ _ _ _ ?_
    conv => whnf
    rw [nI_1]
    have c := hA M2 n tl k Q Tw R (Q l).1 (Q l).1 (Q l).2 (lv + 1) (inv != bk) (h ||| mpM f (mskL cs)) m (fun i => f (ws.getD i 0)) true (Tw l) O (E + 2) (lyB_m uF hB) (trH_m uF rD.2.2.2.1) (by have := rD.2.2.1; omega) rD.2.2.2.2.1 (by omega) (by omega) ⟨by omega, fun y => absurd y (by omega), fun _ => ⟨T4, fun w hw => uA w (by omega)⟩, fun w hw => hv.2.2.2 _ (wm w hw)⟩ (fun y => absurd y (by decide)) (by omega)
    refine am_cq c ?_
    rintro r N ⟨rfl, M3, g3, rfl⟩
    refine ⟨_, rfl, ?_⟩
    refine am_run hX 2 _ _ _ _ ?_
    conv => whnf
    refine ⟨trivial, rfl, M3, mpF_t uF (mpF_w (by omega) g3), ?_⟩
    unfold ou1 ouF
    rw [show jtO R (evU l bk cs ws) (jtF R B) = usL (evU l bk cs ws) (R l) from rfl, ouL_u (f' := fun i => f (ws.getD i 0)) hx (fun i hi => by have := wm i hi; have := hv.1; omega) (fun i _ => rfl) (by omega), ← rD.2.2.2.2.2]
  · obtain ⟨lv0, iv0, h0⟩ := hr rbf
    subst lv0
    subst iv0
    subst h0
    have fid : f = fun i => i := funext (hv.2.1 rfl)
    refine lo_p (d := E + 1) hX q4 t4 (by omega) hv nd (fun w hw => absurd hw List.not_mem_nil) (fun fw a1 a2 a3 => ?_)
    refine lo_M (d := E) (tl := tl) (k := kk) (w := w) (b := bb) hX h6 n20 q4 t4 k9 (n5 (by show ¬ (2 = 4); decide)) a2 (a3 0 (by show 0 < 1; decide)) (by have := hv.1; omega) ⟨rfl, M, mpF_r 0 M, ?_⟩
    unfold ou1
    rw [show jtO R (evM kk w bb) (jtF R B) = [evX (0, 0) (evM kk w bb)] from rfl, fid, ouL_M]
  · have e5 : M.1 125 q = nI qq := n5 (by show ¬ (3 = 4); decide)
    have eb := s3 rfl
    refine lo_p (d := E + 1) hX q4 t4 (by omega) hv nd (fun w hw => absurd hw List.not_mem_nil) (fun fw a1 a2 a3 => ?_)
    have hAll : ∀ (M' : mm_M) (m' : Nat × Nat) (O' : List bk_X) (F : Nat), 3 * b + 7 ≤ F → mpF lv M M' → am_M F false nm_X12_layAll [aR 108, aI (nI (q + 1)), aI (nI (q + 1 + B.length)), aI (nI lv), aI (b01 inv), aI (nI h), aI (nI m'.1), aI (nI m'.2)] (llM M' n O') (lyQ M' n lv O' (ouF R f inv h m' B)) := fun M' m' O' F hF g => hA M' n tl k Q Tw R bs (q + 1) B lv inv h m' f rb wd O' F (lyB_m g hB) (trH_m g tB) (by omega) eb (by omega) (by omega) (lvF_m g hv) hr hF
    rcases hk with ⟨k14, q1, q9⟩ | ⟨k123, q3, rbf⟩
    · subst k14
      rw [show wtE (evB 14 qq) = 14 from rfl]
      refine am_run hX 1 _ _ _ _ ?_
      conv => whnf
      refine ⟨fun y => absurd y (by decide), fun _ => ?_⟩
      conv => whnf
      refine ⟨fun y => absurd y (by decide), fun _ => ?_⟩
      conv => whnf
      refine ⟨fun y => absurd y (by decide), fun _ => ?_⟩
      conv => whnf
      refine ⟨fun y => absurd y (by decide), fun _ => ?_⟩
      conv => whnf
      refine ⟨fun y => absurd y (by decide), fun _ => ?_⟩
      conv => whnf
      refine ⟨fun _ => ?_, fun y => absurd rfl y⟩
      refine am_run hX 8 _ _ _ _ ?_
      conv => whnf
      refine am_cq (ct_lT (E := E) q9 e5 n6 (by omega) hB hv (fun M' O' g => hAll M' m O' (E + 1) (by omega) g)) ?_
      rintro r N ⟨rfl, M3, g3, rfl⟩
      refine ⟨_, rfl, ?_⟩
      refine am_run hX 2 _ _ _ _ ?_
      conv => whnf
      refine ⟨trivial, rfl, M3, g3, ?_⟩
      unfold ou1 ouF
      rw [show jtO R (evB 14 qq) (jtF R B) = rpt (jtF R B) qq from rfl, ouL_rp]
    · obtain ⟨lv0, iv0, h0⟩ := hr rbf
      have sh4 : ∀ w, w < 4 → (1 : Int32) <<< (nI w &&& 31) = nI (2 ^ w) := by decide
      rcases k123 with kk2 | kk3
      · subst kk2
        rw [show wtE (evB 12 qq) = 12 from rfl]
        refine am_run hX 1 _ _ _ _ ?_
        conv => whnf
        refine ⟨fun y => absurd y (by decide), fun _ => ?_⟩
        conv => whnf
        refine ⟨fun y => absurd y (by decide), fun _ => ?_⟩
        conv => whnf
        refine ⟨fun y => absurd y (by decide), fun _ => ?_⟩
        conv => whnf
        refine ⟨fun _ => ?_, fun y => absurd rfl y⟩
        refine am_run hX 8 _ _ _ _ ?_
        conv => whnf
        refine ⟨ix, ?_⟩
        rw [cl, z 126 (by decide) (by decide), n6]
        refine am_run hX 9 _ _ _ _ ?_
        conv => whnf
        refine ⟨ix, ?_⟩
        rw [cl, z 125 (by decide) (by decide), e5]
        refine am_run hX 4 _ _ _ _ ?_
        conv => whnf
        rw [nI_1, sh4 _ q3, nI_or]
        refine am_cq (hAll M (m.1 ||| 2 ^ qq, m.2) O (E + 2) (by omega) (mpF_r lv M)) ?_
        rintro r N ⟨rfl, M3, g3, rfl⟩
        refine ⟨_, rfl, ?_⟩
        refine am_run hX 2 _ _ _ _ ?_
        conv => whnf
        refine ⟨trivial, rfl, M3, g3, ?_⟩
        unfold ou1 ouF
        rw [show jtO R (evB 12 qq) (jtF R B) = (jtF R B).map (adA (0 ||| 2 ^ qq, 0)) from rfl, ouL_k]
        show _ = llM M3 n (O ++ ouL f inv h (m.1 ||| (0 ||| 2 ^ qq), m.2 ||| 0) (jtF R B))
        rw [Nat.zero_or, Nat.or_zero]
      · subst kk3
        rw [show wtE (evB 13 qq) = 13 from rfl]
        refine am_run hX 1 _ _ _ _ ?_
        conv => whnf
        refine ⟨fun y => absurd y (by decide), fun _ => ?_⟩
        conv => whnf
        refine ⟨fun y => absurd y (by decide), fun _ => ?_⟩
        conv => whnf
        refine ⟨fun y => absurd y (by decide), fun _ => ?_⟩
        conv => whnf
        refine ⟨fun y => absurd y (by decide), fun _ => ?_⟩
        conv => whnf
        refine ⟨fun _ => ?_, fun y => absurd rfl y⟩
        refine am_run hX 8 _ _ _ _ ?_
        conv => whnf
        refine ⟨ix, ?_⟩
        rw [cl, z 126 (by decide) (by decide), n6]
        refine am_run hX 10 _ _ _ _ ?_
        conv => whnf
        refine ⟨ix, ?_⟩
        rw [cl, z 125 (by decide) (by decide), e5]
        refine am_run hX 3 _ _ _ _ ?_
        conv => whnf
        rw [nI_1, sh4 _ q3, nI_or]
        refine am_cq (hAll M (m.1, m.2 ||| 2 ^ qq) O (E + 2) (by omega) (mpF_r lv M)) ?_
        rintro r N ⟨rfl, M3, g3, rfl⟩
        refine ⟨_, rfl, ?_⟩
        refine am_run hX 2 _ _ _ _ ?_
        conv => whnf
        refine ⟨trivial, rfl, M3, g3, ?_⟩
        unfold ou1 ouF
        rw [show jtO R (evB 13 qq) (jtF R B) = (jtF R B).map (adA (0, 0 ||| 2 ^ qq)) from rfl, ouL_k]
        show _ = llM M3 n (O ++ ouL f inv h (m.1 ||| 0, m.2 ||| (0 ||| 2 ^ qq)) (jtF R B))
        rw [Nat.zero_or, Nat.or_zero]
  · refine lo_p (d := E + 1) hX q4 t4 (by omega) hv nd (fun w hw => absurd hw List.not_mem_nil) (fun fw a1 a2 a3 => ?_)
    rw [show wtE (evR' l kk) = 15 from rfl]
    refine am_run hX 1 _ _ _ _ ?_
    conv => whnf
    refine ⟨fun y => absurd y (by decide), fun _ => ?_⟩
    conv => whnf
    refine ⟨fun y => absurd y (by decide), fun _ => ?_⟩
    conv => whnf
    refine ⟨fun y => absurd y (by decide), fun _ => ?_⟩
    conv => whnf
    refine ⟨fun y => absurd y (by decide), fun _ => ?_⟩
    conv => whnf
    refine ⟨fun y => absurd y (by decide), fun _ => ?_⟩
    conv => whnf
    refine ⟨fun y => absurd y (by decide), fun _ => ?_⟩
    conv => whnf
    refine ⟨fun _ => ?_, fun y => absurd rfl y⟩
    refine am_run hX 2 _ _ _ _ ?_
    conv => whnf
    refine ⟨trivial, rfl, M, mpF_r lv M, ?_⟩
    unfold ou1
    rw [show jtO R (evR' l kk) (jtF R B) = [] from rfl, ouL_0, List.append_nil]
theorem lo_z : loC 0 := by
  intro M n tl k Q Tw R bs q S lv inv h m f rb wd O D _ _ _ _ _ _ hb
  have := jn_l S
  omega
theorem la_n : ∀ b, laC b
  | 0 => la_1 lo_z
  | b + 1 => la_1 (lo_1 (la_n b))
theorem lo_n : ∀ b, loC b
  | 0 => lo_z
  | b + 1 => lo_1 (la_n b)
/-- a TEXT's OPS -/
theorem ct_layT {n tl k E : Nat} {Q : Nat → Nat × Tr} {Tw : Nat → Nat} {R : Nat → List bk_X} {W : Nat} {Ss : List (Ev × Tr)} (hB : lyB M n tl k Q Tw R) (hT : trH M tl 0 (flT Ss)) (pl : (flT Ss).length ≤ 133) (hw : wfT Q Tw false W 0 (flT Ss)) (W8 : W ≤ 8) (hE : 410 ≤ E) : am_M E false nm_X12_layAll [aR 108, aI 0, aI (nI (flT Ss).length), aI 0, aI 0, aI 0, aI 0, aI 0] (llM M n []) (lyQ M n 0 [] (ouF R (fun i => i) false 0 (0, 0) (flT Ss))) := by
  obtain ⟨e, rfl⟩ : ∃ e, E = e + 2 := ⟨E - 2, by omega⟩
  obtain ⟨Zs, h1, h2⟩ := hw
  rw [h1] at hT pl ⊢
  have hv : lvF M 0 W (fun i => i) := ⟨W8, fun _ _ => rfl, fun y => absurd rfl y, fun w hw => (by omega : w < 8)⟩
  have key := ct_laF (M := M) (n := n) (lv := 0) (p := 0) (h := 0) (m := (0, 0)) (f := fun i => i) (R := R) (E := e) (Ss := Zs) (O := []) (fun A S B e => (tr_26 hT A S B e).2) (by omega) (fun M' O' A S B e g => ?_)
  · rw [Nat.zero_add] at key
    exact key
  · have el : (flT Zs).length = (flT A).length + (jn S).length + (flT B).length := by rw [e]; exact fl_c A B S
    rw [e] at h2
    obtain ⟨s1, s2, s3⟩ := (sqN_b A (S :: B) 0 h2).2.1
    exact lo_n 133 M' n tl k Q Tw R _ _ S 0 false 0 (0, 0) (fun i => i) false W O' _ (lyB_m g hB) (trH_m g (tr_26 hT A S B e).1) (by omega) s1 s2 s3 (by omega) (by decide) (lvF_m g hv) (fun _ => ⟨rfl, rfl, rfl⟩) (by omega)
end CSL
