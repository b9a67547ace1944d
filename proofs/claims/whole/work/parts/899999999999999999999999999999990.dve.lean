/-! derive: the class whole -/
/-- what the class's derive may change, the circuits apart -/
def dvcF (M N : mm_M) : Prop := (∀ k, (k < 9 ∨ 16 < k) → (k < 57 ∨ 65 < k) → N.1 k = M.1 k) ∧ (∀ k, (k < 57 ∨ 65 < k) → N.2 k = M.2 k) ∧ (∀ k, k = 10 ∨ k = 11 ∨ k = 12 → N.1 k = M.1 k) ∧ N.1 9 7 = M.1 9 7 ∧ ∀ y, y ≠ 9 → N.1 57 y = M.1 57 y
theorem dvcF_m {M N : mm_M} (h : mrF M N) : dvcF M N := ⟨fun k a b => h.1 k (by omega) (by omega) (by omega) (by omega), fun k _ => by rw [h.2.1], fun k hk => h.1 k (by omega) (by omega) (by omega) (by omega), h.2.2 7 (by decide) (by decide), fun y _ => by rw [h.1 57 (by decide) (by decide) (by decide) (by decide)]⟩
theorem dvcF_t {M N K : mm_M} (h : dvcF M N) (g : dvcF N K) : dvcF M K := ⟨fun k a b => (g.1 k a b).trans (h.1 k a b), fun k a => (g.2.1 k a).trans (h.2.1 k a), fun k a => (g.2.2.1 k a).trans (h.2.2.1 k a), g.2.2.2.1.trans h.2.2.2.1, fun y a => (g.2.2.2.2 y a).trans (h.2.2.2.2 y a)⟩
/-- what a draft comes to, of any how -/
def drG (Q : mm_M → Prop) (M : mm_M) (ok : Prop) (L : List bk_X) : am_Q := fun r N => dvcF M N ∧ Q N ∧ ((ok ∧ r = .inl (some (aI 1)) ∧ drw N L) ∨ (¬ ok ∧ r = .inl (some (aI 0))))
theorem drQ_G {Q : mm_M → Prop} {M : mm_M} {ok : Prop} {L : List bk_X} {r : am_R} {N : mm_M} (hQ : ∀ N, mrF M N → Q N) (h : drQ M ok L r N) : drG Q M ok L r N := ⟨dvcF_m h.1, hQ N h.1, h.2⟩
section DVE
variable {d : Nat} {M : mm_M} {n c W V : Nat} {how q : Int32} {ok : Prop} {L : List bk_X} {Q : mm_M → Prop}
set_option maxRecDepth 100000 in
theorem dv_tc {P : am_Q} {X : am_X} {v4 : Int32} (hX : am_K (d + 7) false nm_X11_derive P X) (n20 : n ≤ 20) (h7 : M.1 9 7 = nI n) (hc : c < n) (h12 : M.1 12 c = nI W) (w8 : W ≤ 8) (hV : V = W + (if how = 2 then 1 else 0)) (hD : how ≠ 6 → ∀ D, dfF M D → drw D [] → am_M (d + 7) false nm_X11_draftDerived [aR 0, aI how, aI (nI c), aI q] D (drG Q D ok L)) (hD6 : how = 6 → ∀ D, dfF M D → drw D [] → am_M (d + 7) false nm_X2_putShortest [aR 57, aR 9, aI (nI c)] D (drG Q D ok L)) (hw : ok → V ≤ 8 ∧ (∀ j, j < L.length → bk_w V (zg L j)) ∧ L.length < 2 ^ 30) (K1 : ok → okL L → n < 20 → ∀ N, dvcF M N → Q N → drw N L → P (.inl (some (aI (nI n)))) (kpM N n L.length V)) (K0 : ¬ (ok ∧ okL L ∧ n < 20) → ∀ N, dvcF M N → Q N → P (.inl (some (aI (-1)))) N) : X 118 [some (aR 0), some (aI how), some (aI (nI c)), some (aI q), some (aI v4), none] [] M := by
  have hd0 := drw_l M []
  have hf0 := dfF_l M []
  have hdc0 := dvcF_m (mrF_d hf0)
  have hkey : ∀ (r : am_R) (N : mm_M), drG Q (dlM M []) ok L r N → ∃ v, r = .inl v ∧ ∀ st, st = (v.toList : List am_V) → X 153 [some (aR 0), some (aI how), some (aI (nI c)), some (aI q), some (aI v4), none] st N := by
    rintro r N ⟨hF, hQ, ⟨hok, rfl, hL⟩ | ⟨hok, rfl⟩⟩
    · refine ⟨_, rfl, fun st hst => ?_⟩
      subst hst
      have hFM := dvcF_t hdc0 hF
      obtain ⟨v8, hwv, hlen⟩ := hw hok
      have e7 : N.1 9 7 = nI n := hFM.2.2.2.1.trans h7
      have e12 : N.1 12 c = nI W := by rw [hFM.2.2.1 12 (by omega)]; exact h12
      refine am_run hX 3 _ _ _ _ ?_
      conv => whnf
      refine ⟨fun z => absurd z (by decide), fun _ => ?_⟩
      -- keep
      have h183 : ∀ v : Int32, v = (if how = 2 then 1 else 0) → X 183 [some (aR 0), some (aI how), some (aI (nI c)), some (aI q), some (aI v4), some (aI 1)] [aI v, aI (nI W), aR 9] N := by
        intro v hv
        have ev : nI W + v = nI V := by
          rw [hv, hV]
          split
          · rw [show (1 : Int32) = nI 1 from rfl, nI_add]
          · rw [show (0 : Int32) = nI 0 from rfl, nI_add]
        refine am_run hX 4 _ _ _ _ ?_
        conv => whnf
        rw [ev]
        by_cases hk : okL L ∧ n < 20
        · have key := ct_keep1 (d := d + 4) (M := N) (W := V) (V := V) (l := L) e7 hk.2 v8 hwv hk.1
          rw [drw_d hL] at key
          refine am_c1 key ?_
          conv => whnf
          exact ⟨trivial, K1 hok hk.1 hk.2 N hFM hQ hL⟩
        · have key := ct_keep0 (d := d + 4) (M := N) (W := V) (V := V) (l := L) e7 n20 v8 hwv hlen (by
            by_cases z : okL L
            · exact Or.inr (by
                have : ¬ n < 20 := fun y => hk ⟨z, y⟩
                omega)
            · exact Or.inl z)
          rw [drw_d hL] at key
          refine am_c1 key ?_
          conv => whnf
          exact ⟨trivial, K0 (fun z => hk z.2) N hFM hQ⟩
      refine am_run hX 10 _ _ _ _ ?_
      conv => whnf
      refine ⟨vp_in_nI (by show c < 20; omega) (by decide), ?_⟩
      conv => whnf
      rw [nI_clamp (n := c) (by omega), e12]
      refine ⟨fun z => ?_, fun z => ?_⟩
      · refine am_run hX 1 _ _ _ _ ?_
        conv => whnf
        exact h183 0 (by rw [if_neg z])
      · refine am_run hX 2 _ _ _ _ ?_
        conv => whnf
        exact h183 1 (by rw [if_pos (Decidable.byContradiction z)])
    · refine ⟨_, rfl, fun st hst => ?_⟩
      subst hst
      refine am_run hX 5 _ _ _ _ ?_
      conv => whnf
      refine ⟨fun _ => ?_, fun z => absurd rfl z⟩
      conv => whnf
      exact ⟨trivial, K0 (fun z => hok z.1) N (dvcF_t hdc0 hF) hQ⟩
  refine am_run hX 3 _ _ _ _ ?_
  conv => whnf
  refine am_c0 (ct_stDL (d := d + 6)) ?_
  refine am_run hX 3 _ _ _ _ ?_
  conv => whnf
  refine ⟨fun h6 => ?_, fun h6 => ?_⟩
  · refine am_run hX 5 _ _ _ _ ?_
    conv => whnf
    refine am_cq (hD h6 _ hf0 hd0) fun r1 N1 hq => ?_
    obtain ⟨v, rfl, hv⟩ := hkey r1 N1 hq
    refine ⟨v, rfl, ?_⟩
    conv => whnf
    exact hv _ (List.append_nil _)
  · have h6 := Decidable.byContradiction h6
    refine am_run hX 7 _ _ _ _ ?_
    conv => whnf
    refine am_cq (hD6 h6 _ hf0 hd0) fun r1 N1 hq => ?_
    obtain ⟨v, rfl, hv⟩ := hkey r1 N1 hq
    refine ⟨v, rfl, ?_⟩
    conv => whnf
    exact hv _ (List.append_nil _)
end DVE
