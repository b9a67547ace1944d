/-! ROUTE: the reference's rows of places -/
theorem nI_dv {n k : Nat} (hn : n < 2 ^ 31) (hk : k < 2 ^ 31) : nI n / nI k = nI (n / k) := by
  have h1 : (nI n).toInt = (n : Int) := Int32.toInt_ofNat_of_lt hn
  have h2 : (nI k).toInt = (k : Int) := Int32.toInt_ofNat_of_lt hk
  have h3 : n / k < 2 ^ 31 := Nat.lt_of_le_of_lt (Nat.div_le_self _ _) hn
  have h4 : (nI (n / k)).toInt = ((n / k : Nat) : Int) := Int32.toInt_ofNat_of_lt h3
  apply Int32.toInt_inj.mp
  rw [Int32.toInt_div, h1, h2, h4, ← Int.ofNat_tdiv]
  clear h1 h2 h4
  generalize n / k = q at h3 ⊢
  exact Int.bmod_eq_of_le (by omega) (by omega)
theorem nI_rm {n k : Nat} (hn : n < 2 ^ 31) (hk : k < 2 ^ 31) : nI n - nI n / nI k * nI k = nI (n % k) := by
  rw [nI_dv hn hk, nI_mul, nI_sub (Nat.div_mul_le_self n k)]
  congr 1
  have := Nat.div_add_mod n k
  rw [Nat.mul_comm] at this
  omega
/-- the WIRES of an OP that is on two of them -/
def prX (x : bk_X) : Option (Nat × Nat) := if x.1 = 8 then some (x.2.1, x.2.2.1) else if x.2.2.2.1 = 0 then none else some (x.2.1, lw x.2.2.2.1)
def wnX (x : bk_X) : Nat := 1 + pc x.2.2.2.1 + (if x.1 = 8 then 1 else 0)
def plR (N : mm_M) (p : List Nat) : Prop := ∀ w, w < p.length → N.1 196 w = nI (p.getD w 0)
def lkR (N : mm_M) (Lk : Nat → Nat → Bool) : Prop := ∀ a b, a < 6 → b < 6 → N.1 195 (6 * a + b) = b01 (Lk a b)
def rbF (M N : mm_M) : Prop := (∀ k, k ≠ 196 → N.1 k = M.1 k) ∧ N.2 = M.2
theorem rbF_r (M : mm_M) : rbF M M := ⟨fun _ _ => rfl, rfl⟩
theorem rbF_t {M N K : mm_M} (h : rbF M N) (g : rbF N K) : rbF M K := ⟨fun k a => (g.1 k a).trans (h.1 k a), g.2.trans h.2⟩
theorem gd_u {f : Nat → Int32} {a : Nat} {v : Int32} {p : List Nat} {x : Nat} (h : ∀ w, w < p.length → f w = nI (p.getD w 0)) (ha : a = p.length) (hv : v = nI x) : ∀ w, w < (p ++ [x]).length → upd f a v w = nI ((p ++ [x]).getD w 0) := by
  intro w hw
  rw [List.length_append] at hw
  have hw : w < p.length + 1 := hw
  by_cases c : w = p.length
  · rw [c, ← ha, up_at, hv, ha, gd_r]
  · rw [up_ne (by omega), gd_l (by omega)]
    exact h w (by omega)
theorem l6 {W : Nat} {p : List Nat} (h : arr W p) {w : Nat} (hw : w < W) : p.getD w 0 < 6 := by
  have hw' : w < p.length := by rw [h.1]; exact hw
  rw [List.getD_eq_getElem?_getD, List.getElem?_eq_getElem hw']
  exact h.2.1 _ (List.getElem_mem hw')
theorem drp_c {p : List Nat} {w : Nat} (h : w < p.length) : p.drop w = p.getD w 0 :: p.drop (w + 1) := by
  rw [List.drop_eq_getElem_cons h, List.getD_eq_getElem?_getD, List.getElem?_eq_getElem h]
  rfl
theorem tk_c {p : List Nat} {w : Nat} (h : w < p.length) : p.take (w + 1) = p.take w ++ [p.getD w 0] := by
  rw [List.take_succ, List.getElem?_eq_getElem h, List.getD_eq_getElem?_getD, List.getElem?_eq_getElem h]
  rfl
section RTD
variable {d : Nat} {M : mm_M} {W : Nat} {p : List Nat}
set_option maxRecDepth 100000 in
theorem ct_wOfR {x : bk_X} (h1 : x.1 ≤ 10) (h8 : x.2.2.2.1 < 256) : am_M (d + 2) false nm_X12_wiresOf [aI (nI x.1), aI (nI x.2.2.2.1)] M (am_q1 (aI (nI (wnX x))) M) := by
  refine ⟨rfl, rfl, rfl, fun X hX => am_run hX 3 _ _ _ _ ?_⟩
  conv => whnf
  refine am_c1 (ct_count d x.2.2.2.1 (by omega) M) ?_
  refine am_run hX 4 _ _ _ _ ?_
  conv => whnf
  rw [show (1 : Int32) + nI (pc x.2.2.2.1) = nI (1 + pc x.2.2.2.1) from by rw [show (1 : Int32) = nI 1 from rfl, nI_add]]
  refine ⟨fun z => ?_, fun z => ?_⟩
  · have e : x.1 ≠ 8 := fun q => z (by rw [q]; rfl)
    refine am_run hX 3 _ _ _ _ ?_
    conv => whnf
    refine ⟨trivial, ?_, rfl⟩
    unfold wnX
    rw [if_neg e, Nat.add_zero, show nI (1 + pc x.2.2.2.1) + 0 = nI (1 + pc x.2.2.2.1) from by rw [show (0 : Int32) = nI 0 from rfl, nI_add, Nat.add_zero]]
  · have e : x.1 = 8 := (nI_eq (a := x.1) (b := 8) (by omega) (by decide)).mp (Decidable.byContradiction z)
    refine am_run hX 4 _ _ _ _ ?_
    conv => whnf
    refine ⟨trivial, ?_, rfl⟩
    unfold wnX
    rw [if_pos e, nI_1]
set_option maxRecDepth 100000 in
theorem pk_l {P : am_Q} {X : am_X} {v1 : Int32} (hX : am_K d false nm_X12_pack P X) (hW : W ≤ 6) (ha : arr W p) (hp : plR M p) (hP : P (.inl (some (aI (nI (pk6 p))))) M) : ∀ j, j ≤ W → X 6 [some (aR 108), some (aI v1), some (aI (nI (pk6 (p.drop j)))), some (aI (nI j + -1))] [] M := by
  intro j
  induction j with
  | zero =>
    intro _
    refine am_run hX 2 _ _ _ _ ?_
    conv => whnf
    refine ⟨fun _ => ?_, fun z => absurd (by decide) z⟩
    refine am_run hX 2 _ _ _ _ ?_
    conv => whnf
    exact ⟨trivial, hP⟩
  | succ j ih =>
    intro hj
    have jl : j < p.length := by rw [ha.1]; exact hj
    rw [nI_d1]
    refine am_run hX 2 _ _ _ _ ?_
    conv => whnf
    refine ⟨fun z => absurd z (nI_n0 (by omega)), fun _ => ?_⟩
    refine am_run hX 11 _ _ _ _ ?_
    conv => whnf
    refine ⟨vp_in_nI (by show j < 6; omega) (by decide), ?_⟩
    conv => whnf
    have ih := ih (by omega)
    rw [drp_c jl] at ih
    rw [nI_clamp (n := j) (by omega), hp j jl, show (6 : Int32) = nI 6 from rfl, nI_mul, nI_add, Nat.add_comm (6 * pk6 (p.drop (j + 1)))]
    exact ih
set_option maxRecDepth 100000 in
theorem ct_pck (hW : W ≤ 6) (ha : arr W p) (hp : plR M p) : am_M (d + 1) false nm_X12_pack [aR 108, aI (nI W)] M (am_q1 (aI (nI (pk6 p))) M) := by
  refine ⟨rfl, rfl, rfl, fun X hX => am_run hX 6 _ _ _ _ ?_⟩
  conv => whnf
  have key := pk_l (M := M) (v1 := nI W) hX hW ha hp ⟨rfl, rfl⟩ W (Nat.le_refl _)
  rw [show p.drop W = [] from by rw [← ha.1, List.drop_length]] at key
  rw [nI_s1']
  exact key
set_option maxRecDepth 100000 in
theorem up_l {P : am_Q} {X : am_X} {v1 : Int32} (hX : am_K d false nm_X12_unpack P X) (hW : W ≤ 6) (ha : arr W p) (hP : ∀ N, rbF M N → plR N p → P (.inl none) N) : ∀ (m j : Nat) (N : mm_M), j + m = W → rbF M N → plR N (p.take j) → X 5 [some (aR 108), some (aI v1), some (aI (nI W)), some (aI (nI (pk6 (p.drop j)))), some (aI (nI j))] [] N := by
  intro m
  induction m with
  | zero =>
    intro j N hj hF hN
    obtain rfl : j = W := by omega
    refine am_run hX 3 _ _ _ _ ?_
    conv => whnf
    refine ⟨fun _ => ?_, fun z => absurd (nI_le (Nat.le_refl _) (by omega)) z⟩
    refine am_run hX 1 _ _ _ _ ?_
    conv => whnf
    rw [show p.take j = p from by rw [← ha.1, List.take_length]] at hN
    exact ⟨trivial, hP N hF hN⟩
  | succ m ih =>
    intro j N hj hF hN
    have jl : j < p.length := by rw [ha.1]; omega
    have x6 : p.getD j 0 < 6 := l6 ha (by omega)
    have e := drp_c jl
    have hb : pk6 (p.drop j) < 6 ^ 6 := Nat.lt_of_lt_of_le (pk6_l _ (fun x hx => ha.2.1 x (List.mem_of_mem_drop hx))) (Nat.pow_le_pow_right (by decide) (by rw [List.length_drop]; rw [ha.1]; omega))
    have ev : pk6 (p.drop j) = p.getD j 0 + 6 * pk6 (p.drop (j + 1)) := by rw [e]; rfl
    refine am_run hX 3 _ _ _ _ ?_
    conv => whnf
    refine ⟨fun z => absurd z (nI_ge (by omega) (by omega)), fun _ => ?_⟩
    refine am_run hX 13 _ _ _ _ ?_
    conv => whnf
    refine ⟨by decide, ?_⟩
    conv => whnf
    refine ⟨vp_in_nI (by show j < 6; omega) (by decide), ?_⟩
    conv => whnf
    refine ⟨by decide, ?_⟩
    rw [nI_clamp (n := j) (by omega), show (6 : Int32) = nI 6 from rfl, nI_rm (by omega) (by decide), nI_dv (by omega) (by decide), show pk6 (p.drop j) % 6 = p.getD j 0 by omega, show pk6 (p.drop j) / 6 = pk6 (p.drop (j + 1)) by omega]
    generalize hN1 : mm_i N 196 _ = N1
    conv => whnf
    rw [nI_1]
    refine ih (j + 1) N1 (by omega) (rbF_t hF ⟨fun k hk => by rw [← hN1, mm_ne _ _ _ _ hk], by rw [← hN1]; rfl⟩) ?_
    rw [tk_c jl]
    unfold plR
    rw [← hN1, mm_i1]
    exact gd_u hN (by rw [List.length_take]; omega) rfl
set_option maxRecDepth 100000 in
theorem ct_unp (hW : W ≤ 6) (ha : arr W p) : am_M (d + 1) false nm_X12_unpack [aR 108, aI (nI (pk6 p)), aI (nI W)] M (fun r N => r = .inl none ∧ rbF M N ∧ plR N p) := by
  refine ⟨rfl, rfl, rfl, fun X hX => am_run hX 4 _ _ _ _ ?_⟩
  conv => whnf
  exact up_l (M := M) (v1 := nI (pk6 p)) hX hW ha (fun N a b => ⟨rfl, a, b⟩) W 0 M (by omega) (rbF_r M) (fun w hw => absurd hw (by rw [List.take_zero]; exact Nat.not_lt_zero _))
set_option maxRecDepth 100000 in
theorem ex_l {P : am_Q} {X : am_X} {e : Nat} (hX : am_K d false nm_X12_exchangePlaces P X) (hW : W ≤ 6) (he : e < 36) (ha : arr W p) (hP : ∀ N, rbF M N → plR N (p.map (swx e)) → P (.inl none) N) : ∀ (m j : Nat) (N : mm_M), j + m = W → rbF M N → (∀ w, w < j → N.1 196 w = nI (swx e (p.getD w 0))) → (∀ w, j ≤ w → w < W → N.1 196 w = nI (p.getD w 0)) → X 2 [some (aR 108), some (aI (nI e)), some (aI (nI W)), some (aI (nI j))] [] N := by
  obtain ⟨d1, d2⟩ := t_q e he
  have d2 : nI e - nI e / 6 * 6 = nI (e % 6) := by rw [d1]; exact d2
  intro m
  induction m with
  | zero =>
    intro j N hj hF hN hN2
    obtain rfl : j = W := by omega
    refine am_run hX 3 _ _ _ _ ?_
    conv => whnf
    refine ⟨fun _ => ?_, fun z => absurd (nI_le (Nat.le_refl _) (by omega)) z⟩
    refine am_run hX 1 _ _ _ _ ?_
    conv => whnf
    refine ⟨trivial, hP N hF (fun w hw => ?_)⟩
    rw [List.length_map] at hw
    rw [gd_m hw]
    exact hN w (by rw [← ha.1]; exact hw)
  | succ m ih =>
    intro j N hj hF hN hN2
    have x6 : p.getD j 0 < 6 := l6 ha (by omega)
    have ej := hN2 j (Nat.le_refl _) (by omega)
    have hin : vp_in (nI j) 6 := vp_in_nI (by omega) (by decide)
    have go : ∀ v, v = nI (swx e (p.getD j 0)) → X 58 [some (aR 108), some (aI (nI e)), some (aI (nI W)), some (aI (nI j))] [aI v, aI (nI j), aR 196] N := by
      intro v hv
      refine am_run hX 3 _ _ _ _ ?_
      conv => whnf
      refine ⟨hin, ?_⟩
      rw [nI_clamp (n := j) (by omega)]
      generalize hN1 : mm_i N 196 _ = N1
      conv => whnf
      rw [nI_1]
      refine ih (j + 1) N1 (by omega) (rbF_t hF ⟨fun k hk => by rw [← hN1, mm_ne _ _ _ _ hk], by rw [← hN1]; rfl⟩) (fun w hw => ?_) (fun w h1 h2 => ?_)
      · rw [← hN1, mm_i1]
        by_cases c : w = j
        · rw [c, up_at]
          exact hv
        · rw [up_ne c]
          exact hN w (by omega)
      · rw [← hN1, mm_i1, up_ne (by omega)]
        exact hN2 w (by omega) h2
    refine am_run hX 3 _ _ _ _ ?_
    conv => whnf
    refine ⟨fun z => absurd z (nI_ge (by omega) (by omega)), fun _ => ?_⟩
    refine am_run hX 11 _ _ _ _ ?_
    conv => whnf
    refine ⟨hin, ?_⟩
    conv => whnf
    refine ⟨by decide, ?_⟩
    conv => whnf
    rw [nI_clamp (n := j) (by omega), ej, d1, nI_eq (by omega) (by omega)]
    refine ⟨fun z1 => ?_, fun z1 => ?_⟩
    · refine am_run hX 8 _ _ _ _ ?_
      conv => whnf
      refine ⟨hin, ?_⟩
      conv => whnf
      refine ⟨by decide, ?_⟩
      conv => whnf
      rw [nI_clamp (n := j) (by omega), ej, d2, nI_eq (by omega) (by omega)]
      refine ⟨fun z2 => ?_, fun z2 => ?_⟩
      · refine am_run hX 4 _ _ _ _ ?_
        conv => whnf
        refine ⟨hin, ?_⟩
        rw [nI_clamp (n := j) (by omega), ej]
        refine go _ ?_
        unfold swx
        rw [if_neg z1, if_neg z2]
      · refine am_run hX 4 _ _ _ _ ?_
        conv => whnf
        refine ⟨by decide, ?_⟩
        conv => whnf
        rw [d1]
        refine go _ ?_
        unfold swx
        rw [if_neg z1, if_pos (Decidable.byContradiction z2)]
    · refine am_run hX 4 _ _ _ _ ?_
      conv => whnf
      refine ⟨by decide, ?_⟩
      conv => whnf
      rw [d2]
      refine go _ ?_
      unfold swx
      rw [if_pos (Decidable.byContradiction z1)]
set_option maxRecDepth 100000 in
theorem ct_exP {e : Nat} (hW : W ≤ 6) (he : e < 36) (ha : arr W p) (hp : plR M p) : am_M (d + 1) false nm_X12_exchangePlaces [aR 108, aI (nI e), aI (nI W)] M (fun r N => r = .inl none ∧ rbF M N ∧ plR N (p.map (swx e))) := by
  refine ⟨rfl, rfl, rfl, fun X hX => am_run hX 2 _ _ _ _ ?_⟩
  conv => whnf
  exact ex_l (M := M) hX hW he ha (fun N a b => ⟨rfl, a, b⟩) W 0 M (by omega) (rbF_r M) (fun w hw => absurd hw (Nat.not_lt_zero _)) (fun w _ hw => hp w (by rw [ha.1]; exact hw))
end RTD
