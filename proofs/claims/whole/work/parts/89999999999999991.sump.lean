/-! THE PAIR sum, whole -/
section SMP
variable {ac : Nat → ClassId} {lo : Nat} {ad as : Nat → Nat} {b L : Nat} {xs : Nat → Int32} {hp : mm_M → Nat → xm_H} {I J : mm_M → Prop}
theorem how_8 (h : Int32) : (h < 0 ∨ 7 < h) ∨ ∃ k, k < 8 ∧ h = nI k := by
  by_cases h1 : h < 0
  · exact Or.inl (Or.inl h1)
  · by_cases h2 : 7 < h
    · exact Or.inl (Or.inr h2)
    · exact Or.inr (wire_n (w := 8) (by decide) ⟨h1, fun z => h2 (Int32.lt_of_lt_of_le (by decide) z)⟩)
/-- both have done a step that gives A anew -/
theorem ss_fin {M N M' : mm_M} {a b m c : Nat} {κ : Nat → Nat} {A B : SU} {P Q : Nat → Int64} {r r' : _} (hr : sm_r M a b) (g1 : N.1 84 = M.1 84) (g2 : N.1 88 = M.1 88) (g3 : N.1 92 = M.1 92) (hz : ∀ z, z < 256 → N.2 101 z = 0 ∧ N.2 102 z = 0) (hF : csF M N) (r1 : rsS M 0 A) (r2 : rsS M 1 B) (o1 : okS A) (o2 : okS B) (c2 : csS N b 1 B) (hc : (okN P Q m c κ = true ∧ r = (.inl (some (aI (nI c)))) ∧ csS N a 0 (newS P Q m c κ)) ∨ (okN P Q m c κ = false ∧ r = (.inl (some (aI (-1)))) ∧ csS N a 0 A)) (he : enX P Q c κ) (hE : ssE (th0 N) P Q m c κ r' M') : r' = r ∧ rsF N M' ∧ smI M' := by
  obtain ⟨e1, e2, e3, e4⟩ := hE
  have n1 : rsS (th0 N) 0 A := rsS_th (rsS_cs hF r1)
  have n2 : rsS (th0 N) 1 B := rsS_th (rsS_cs hF r2)
  have f1 := rsF_t rsF_th e1
  rcases hc with ⟨k1, k2, k3⟩ | ⟨k1, k2, k3⟩
  · rcases e4 with ⟨y1, y2, y3⟩ | ⟨y1, _⟩
    · exact ⟨by rw [k2, y2], f1, sm_mk2 hr g1 g2 g3 hz k3 c2 f1 y3 (e3 B n2) (okS_new (enX_u he k1) k1) o2 e2⟩
    · rw [k1] at y1
      exact absurd y1 (by decide)
  · rcases e4 with ⟨y1, _⟩ | ⟨y1, y2, y3⟩
    · rw [k1] at y1
      exact absurd y1 (by decide)
    · exact ⟨by rw [k2, y2], f1, sm_mk2 hr g1 g2 g3 hz k3 c2 f1 (y3 A n1) (e3 B n2) o1 o2 e2⟩
theorem dbl_s {A B : SU} {T : Nat → Nat → Int64} : (fun x => dbl (fun i j => B.2.2.1 i ^^^ A.2.2.1 j) T A.1 x B.1) = fun x => dbl (fun i j => B.2.2.1 j ^^^ A.2.2.1 i) (fun i j => T j i) B.1 x A.1 := funext fun x => by
  unfold dbl
  rw [sumJ_s]
  rfl
theorem pr_sum (H : mm_L ac lo hp) (h1 : ∀ M, I M → smI M) (hJ : ∀ M N M', I M → csF M N → rsF N M' → smI M' → J M') (how : Int32) : la_I ac lo ad as b L xs hp I J nm_X11_sum nm_X12_sum [.int how] := by
  refine am_la_I (us := [aI how]) H fun M hI => ?_
  have hs := h1 M hI
  obtain ⟨a, b, A, B, hr, c1, c2, r1, r2, o1, o2, hw, hz⟩ := hs
  rcases how_8 how with hd | ⟨k, hk, rfl⟩
  · refine am_wk (sx_g (d := 998) (q' := am_q1 (aI (-1)) M) (cg_d (d := 998) hd) fun r M' e => Or.inr ⟨e.1, rfl, e.2⟩) fun r M1 e => ⟨_, e.1, ?_⟩
    rw [e.2]
    exact am_wk (sr_d (d := 999) hd) fun r M2 e => ⟨e.1, by rw [e.2]; exact hJ M M _ hI (csF_r M) rsF_th (smI_th (h1 M hI))⟩
  · -- a step of the class that gives A anew
    have one : ∀ (S : SU) (P Q : Nat → Int64) (c : Nat), okS S → sameS (newS P Q 0 c (fun _ => 0)) S → okN P Q 0 c (fun _ => 0) = true → am_M 999 false nm_X9_change [aR 83, aI (nI k)] M (cgE M a b S) → (∀ N, wkM N → am_M 1000 false nm_X12_sum [aR 108, aI (nI k)] N (ssE (th0 N) P Q 0 c (fun _ => 0))) → am_M 1000 false nm_X11_sum [aR 0, aI (nI k)] M (fun r M1 => ∃ v, r = .inl (some (aI v)) ∧ am_M 1000 false nm_X12_sum [aR 108, aI (nI k)] M1 (fun r' M2 => r' = .inl (some (aI v)) ∧ J M2)) := by
      intro S P Q c oS e ok hc hR
      refine sx_g (d := 998) hc ?_
      rintro r M1 ⟨rfl, f1, f2, f3, k1⟩
      refine Or.inl ⟨rfl, _, rfl, am_wk (hR M1 (wkM_cs f1 hw)) ?_⟩
      rintro r M2 ⟨e1, e2, e3, ⟨y1, rfl, y3⟩ | ⟨y1, _⟩⟩
      · have f1' := rsF_t rsF_th e1
        refine ⟨?_, hJ M M1 _ hI f1 f1' (sm_mk hr f2 hz k1 (f3 B c2) f1' (rsS_same e y3) (e3 B (rsS_th (rsS_cs f1 r2))) oS o2 e2)⟩
        rw [k1.1, ← e.1]
        rfl
      · rw [ok] at y1
        exact absurd y1 (by decide)
    -- sums
    have add : ∀ sg : Int32, (k = 3 ∧ sg = 1 ∨ k = 4 ∧ sg = -1) → am_M 1000 false nm_X11_sum [aR 0, aI (nI k)] M (fun r M1 => ∃ v, r = .inl (some (aI v)) ∧ am_M 1000 false nm_X12_sum [aR 108, aI (nI k)] M1 (fun r' M2 => r' = .inl (some (aI v)) ∧ J M2)) := by
      intro sg hsg
      have hs : ∃ z : Int, sg = 1 ∧ z = 1 ∨ sg = -1 ∧ z = -1 := by
        rcases hsg with ⟨_, h⟩ | ⟨_, h⟩
        · exact ⟨1, Or.inl ⟨h, rfl⟩⟩
        · exact ⟨-1, Or.inr ⟨h, rfl⟩⟩
      obtain ⟨z, hs⟩ := hs
      refine sx_g (d := 998) (cg_34 (d := 994) hsg hr c1 c2 (okS_or o1) (okS_or o2)) ?_
      rintro r M1 ⟨f1, f2, f3, hE⟩
      have n1 := rsS_cs f1 r1
      have n2 := rsS_cs f1 r2
      have nw := wkM_cs f1 hw
      have hz1 : ∀ z, z < 256 → M1.2 101 z = 0 ∧ M1.2 102 z = 0 := fun z h => by
        rw [f2.2.2.2.1, f2.2.2.2.2]
        exact hz z h
      have none' : csS M1 a 0 A → J (th0 M1) := fun k3 => hJ M M1 _ hI f1 rsF_th (sm_mk hr f2 hz k3 (f3 B c2) rsF_th (rsS_th n1) (rsS_th n2) o1 o2 (wkM_th nw))
      rcases hE with ⟨k1, rfl, k3⟩ | ⟨k1, c, κ, k2, k6⟩
      · have hf : farR A B := by
          unfold farC at k1
          unfold farR
          omega
        refine Or.inr ⟨rfl, _, rfl, am_wk (sr_3 (d := 995) (c := 0) (κ := fun _ => 0) hsg n1 n2 (okS_or o1) (okS_or o2) nw (fun y => absurd hf y)) ?_⟩
        rintro r M2 (⟨_, rfl, rfl⟩ | ⟨y, _⟩)
        · exact ⟨rfl, none' k3⟩
        · exact absurd hf y
      · have okx : farR A B → okN (suP (max A.2.1 B.2.1) sg A B) (suQ (max A.2.1 B.2.1) sg A B) (max A.2.1 B.2.1) c κ = false := fun hf => far_k (sg := sg) (z := z) hs (okS_or o1) (okS_or o2) (okS_gd o1) (okS_gd o2) o1.2.2.2.2.2 o2.2.2.2.2.2 hf k1 k2
        rcases k6 with ⟨y1, rfl, y3⟩ | ⟨y1, rfl, y3⟩
        · have hf : ¬ farR A B := fun h => by
            rw [okx h] at y1
            exact absurd y1 (by decide)
          refine Or.inl ⟨rfl, _, rfl, am_wk (sr_3 (d := 995) hsg n1 n2 (okS_or o1) (okS_or o2) nw (fun _ => k2)) ?_⟩
          rintro r M2 (⟨y, _⟩ | ⟨_, hE⟩)
          · exact absurd y hf
          · obtain ⟨t1, t2, t3⟩ := ss_fin hr f2.1 f2.2.1 f2.2.2.1 hz1 f1 r1 r2 o1 o2 (f3 B c2) (Or.inl ⟨y1, rfl, y3⟩) k2 hE
            exact ⟨by rw [t1, y3.1]; rfl, hJ M M1 _ hI f1 t2 t3⟩
        · refine Or.inr ⟨rfl, _, rfl, am_wk (sr_3 (d := 995) hsg n1 n2 (okS_or o1) (okS_or o2) nw (fun _ => k2)) ?_⟩
          rintro r M2 (⟨_, rfl, rfl⟩ | ⟨_, hE⟩)
          · exact ⟨rfl, none' y3⟩
          · obtain ⟨t1, t2, t3⟩ := ss_fin hr f2.1 f2.2.1 f2.2.2.1 hz1 f1 r1 r2 o1 o2 (f3 B c2) (Or.inr ⟨y1, rfl, y3⟩) k2 hE
            exact ⟨t1, hJ M M1 _ hI f1 t2 t3⟩
    -- products
    have mul : ∀ (o : Int32) (K : Nat → Nat → Nat) (T U : Nat → Nat → Int64), (k = 5 ∧ o = 0 ∨ k = 6 ∧ o = 1) → mwR o A B K T U → am_M 999 false nm_X9_change [aR 83, aI (nI k)] M (mlE M a b A (fun x => dbl K T B.1 x A.1) (fun x => dbl K U B.1 x A.1) (A.2.1 + B.2.1)) → am_M 1000 false nm_X11_sum [aR 0, aI (nI k)] M (fun r M1 => ∃ v, r = .inl (some (aI v)) ∧ am_M 1000 false nm_X12_sum [aR 108, aI (nI k)] M1 (fun r' M2 => r' = .inl (some (aI v)) ∧ J M2)) := by
      intro o K T U hk ho hc
      refine sx_g (d := 998) hc ?_
      rintro r M1 ⟨c, κ, he, f1, ⟨g1, g2, g3⟩, hz1, f3, hE⟩
      have n1 := rsS_cs f1 r1
      have n2 := rsS_cs f1 r2
      have nw := wkM_cs f1 hw
      rcases hE with ⟨y1, rfl, y3⟩ | ⟨y1, rfl, y3⟩
      · refine Or.inl ⟨rfl, _, rfl, am_wk (sr_5 (d := 995) hk ho n1 n2 (okS_or o1) (okS_or o2) nw he) ?_⟩
        intro r M2 hE
        obtain ⟨t1, t2, t3⟩ := ss_fin hr g1 g2 g3 hz1 f1 r1 r2 o1 o2 (f3 B c2) (Or.inl ⟨y1, rfl, y3⟩) he hE
        exact ⟨by rw [t1, y3.1]; rfl, hJ M M1 _ hI f1 t2 t3⟩
      · refine Or.inr ⟨rfl, _, rfl, am_wk (sr_5 (d := 995) hk ho n1 n2 (okS_or o1) (okS_or o2) nw he) ?_⟩
        intro r M2 hE
        obtain ⟨t1, t2, t3⟩ := ss_fin hr g1 g2 g3 hz1 f1 r1 r2 o1 o2 (f3 B c2) (Or.inr ⟨y1, rfl, y3⟩) he hE
        exact ⟨t1, hJ M M1 _ hI f1 t2 t3⟩
    have hb : b = 0 ∨ b = 1 := by
      have := hr.1
      omega
    obtain rfl | rfl | rfl | rfl | rfl | rfl | rfl | rfl : k = 0 ∨ k = 1 ∨ k = 2 ∨ k = 3 ∨ k = 4 ∨ k = 5 ∨ k = 6 ∨ k = 7 := by omega
    · exact one oneU P1 Q1 1 okS_1 same_1 ok_1 (cg_0 (d := 997) hr) fun N hN => sr_0 (d := 996) hN
    · exact one nilU Q1 Q1 0 okS_0 same_0 ok_0 (cg_1 (d := 998) hb) fun N hN => sr_1 (d := 996) hN
    · refine sx_g (d := 998) (cg_2 (d := 997) hr) ?_
      rintro r M1 ⟨rfl, rfl⟩
      refine Or.inl ⟨rfl, _, rfl, am_wk (sr_2 (d := 998)) ?_⟩
      rintro r M2 ⟨rfl, rfl⟩
      have e : (exM M a b).1 141 1 = (exM M a b).1 96 0 := by
        show M.1 141 1 = M.1 96 1
        rw [r2.1, c2.1]
      refine ⟨by rw [e], hJ M (exM M a b) _ hI ?_ ?_ ⟨b, a, B, A, ?_, ?_, ?_, ?_, ?_, o2, o1, hw, hz⟩⟩
      · exact csF_t (csF_t (csF_t (csF_t (csF_i (k := 84) (by decide)) (csF_i (k := 88) (by decide))) (csF_i (k := 92) (by decide))) (csF_i (k := 96) (by decide))) (csF_i (k := 97) (by decide))
      · refine ⟨fun k a1 a2 => ?_, fun _ _ _ => rfl, fun j a1 a2 => ?_⟩
        · have h1 : ¬ k = 141 := by omega
          have h2 : ¬ k = 142 := by omega
          have h3 : ¬ k = 143 := by omega
          have h4 : ¬ k = 144 := by omega
          have h5 : ¬ k = 145 := by omega
          simp [swE, swM, th0, mm_i, h1, h2, h3, h4, h5, a1]
        · show upd ((exM M a b).1 108) 0 0 j = (exM M a b).1 108 j
          unfold upd
          rw [if_neg a2]
      · obtain ⟨hab, ⟨_, _, a3⟩, ⟨_, _, b3⟩, ⟨_, _, c3⟩⟩ := hr
        exact ⟨by omega, ⟨rfl, rfl, a3⟩, ⟨rfl, rfl, b3⟩, ⟨rfl, rfl, c3⟩⟩
      · refine ⟨c2.1, c2.2.1, fun i hi => ?_⟩
        have := c2.2.2 i hi
        rcases hb with rfl | rfl
        · exact this
        · exact this
      · have ha : a = 0 ∨ a = 1 := by
          have := hr.1
          omega
        refine ⟨c1.1, c1.2.1, fun i hi => ?_⟩
        have := c1.2.2 i hi
        rcases ha with rfl | rfl
        · exact this
        · exact this
      · refine ⟨r2.1, r2.2.1, fun i hi => ?_⟩
        have k := r2.2.2 i hi
        have u := o2.1
        have e : ∀ f : Nat → Int32, swF 150 f (150 * 0 + i) = f (150 * 1 + i) := fun f => by
          unfold swF
          rw [if_pos (by omega), show 150 + (150 * 0 + i) = 150 * 1 + i by omega]
        show swF 150 (M.1 143) (150 * 0 + i) = _ ∧ swF 150 (M.1 144) (150 * 0 + i) = _ ∧ swF 150 (M.1 145) (150 * 0 + i) = _
        rw [e, e, e]
        exact k
      · refine ⟨r1.1, r1.2.1, fun i hi => ?_⟩
        have k := r1.2.2 i hi
        have u := o1.1
        have e : ∀ f : Nat → Int32, swF 150 f (150 * 1 + i) = f (150 * 0 + i) := fun f => by
          unfold swF
          rw [if_neg (by omega), if_pos (by omega), show 150 * 1 + i - 150 = 150 * 0 + i by omega]
        show swF 150 (M.1 143) (150 * 1 + i) = _ ∧ swF 150 (M.1 144) (150 * 1 + i) = _ ∧ swF 150 (M.1 145) (150 * 1 + i) = _
        rw [e, e, e]
        exact k
    · exact add 1 (Or.inl ⟨rfl, rfl⟩)
    · exact add (-1) (Or.inr ⟨rfl, rfl⟩)
    · exact mul 0 _ _ _ (Or.inl ⟨rfl, rfl⟩) (Or.inl ⟨rfl, rfl, rfl, rfl⟩) (cg_5 (d := 994) hr c1 c2 (okS_or o1) (okS_or o2) hz)
    · have key := cg_6 (d := 994) hr c1 c2 (okS_or o1) (okS_or o2) hz
      rw [dbl_s, dbl_s, Nat.add_comm B.2.1 A.2.1] at key
      exact mul 1 _ _ _ (Or.inr ⟨rfl, rfl⟩) (Or.inr ⟨rfl, rfl, rfl, rfl⟩) key
    · have ha : a = 0 ∨ a = 1 := by
        have := hr.1
        omega
      refine sx_g (d := 998) (cg_7 (d := 998) hr c1 (okS_or o1)) ?_
      rintro r M1 ⟨rfl, rfl⟩
      refine Or.inl ⟨rfl, _, rfl, ?_⟩
      have f1 : csF M (ngM M (93 + a) A.1) := csF_i (k := 93 + a) (by omega)
      have n1 := rsS_cs f1 r1
      have n2 := rsS_cs f1 r2
      have nw := wkM_cs f1 hw
      refine am_wk (sr_7 (d := 999) n1 (okS_or o1)) ?_
      rintro r M2 ⟨rfl, rfl⟩
      have hR : rsF (ngM M (93 + a) A.1) (ngM (th0 (ngM M (93 + a) A.1)) 145 A.1) := rsF_t rsF_th ⟨fun k a1 a2 => ngM_o (by omega), fun _ _ _ => rfl, fun j _ _ => by rw [ngM_o (by decide)]⟩
      have cA : csS (ngM M (93 + a) A.1) a 0 (cjS A) := by
        refine ⟨?_, ?_, fun i hi => ?_⟩
        · rw [ngM_o (by omega)]; exact c1.1
        · rw [ngM_o (by omega)]; exact c1.2.1
        · have hi : i < A.1 := hi
          obtain ⟨k1, k2, k3⟩ := c1.2.2 i hi
          rw [ngM_o (by omega), ngM_o (by omega), ngM_k]
          refine ⟨k1, k2, ?_⟩
          dsimp only
          rw [if_pos hi, k3]
          rfl
      have cB : csS (ngM M (93 + a) A.1) b 1 B := by
        have hab := hr.1
        unfold csS at *
        rw [ngM_o (by omega), ngM_o (by omega), ngM_o (by omega), ngM_o (by omega), ngM_o (by omega)]
        exact c2
      refine ⟨?_, hJ M _ _ hI f1 hR (sm_mk2 (N := ngM M (93 + a) A.1) hr ?_ ?_ ?_ hz cA cB hR ?_ ?_ (okS_cj o1) o2 ?_)⟩
      · rw [cA.1]
        rfl
      · exact ngM_o (by omega)
      · exact ngM_o (by omega)
      · exact ngM_o (by omega)
      · refine ⟨?_, ?_, fun i hi => ?_⟩
        · rw [ngM_o (by decide)]; exact n1.1
        · rw [ngM_o (by decide)]; exact n1.2.1
        · have hi : i < A.1 := hi
          obtain ⟨k1, k2, k3⟩ := n1.2.2 i hi
          rw [ngM_o (by decide), ngM_o (by decide), ngM_k]
          refine ⟨k1, k2, ?_⟩
          dsimp only
          rw [if_pos (by omega)]
          show -((ngM M (93 + a) A.1).1 145 (150 * 0 + i)) = _
          rw [k3]
          rfl
      · refine ⟨?_, ?_, fun i hi => ?_⟩
        · rw [ngM_o (by decide)]; exact n2.1
        · rw [ngM_o (by decide)]; exact n2.2.1
        · obtain ⟨k1, k2, k3⟩ := n2.2.2 i hi
          rw [ngM_o (by decide), ngM_o (by decide), ngM_k]
          refine ⟨k1, k2, ?_⟩
          dsimp only
          have := o1.1
          rw [if_neg (by omega)]
          exact k3
      · have nw := wkM_th nw
        unfold wkM at *
        rw [ngM_o (by decide), ngM_o (by decide), ngM_o (by decide)]
        exact nw
end SMP
