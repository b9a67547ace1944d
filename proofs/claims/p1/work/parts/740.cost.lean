/-! the least cost: the reference; the pair -/
theorem i_andn (x y : Int32) : x &&& (y ^^^ -1) = x ^^^ (x &&& y) := by
  apply Int32.toBitVec_inj.mp
  apply BitVec.eq_of_getLsbD_eq
  intro i hi
  have h : (-1 : Int32).toBitVec.getLsbD i = true := by
    have : ∀ i, i < 32 → (-1 : Int32).toBitVec.getLsbD i = true := by decide
    exact this i hi
  simp only [Int32.toBitVec_and, Int32.toBitVec_xor, BitVec.getLsbD_and, BitVec.getLsbD_xor, h]
  cases x.toBitVec.getLsbD i <;> cases y.toBitVec.getLsbD i <;> rfl
theorem nI_andn (a b : Nat) : nI a &&& (nI b ^^^ -1) = nI (a ^^^ (a &&& b)) := by
  rw [i_andn, nI_and, nI_xor]
theorem pw1 : ∀ S, S < 512 → 0 < S → (pc S = 1 ↔ S &&& (S - 1) = 0) := by decide +kernel
theorem SP_no {S : Nat} (hS : S < 512) (h : S &&& (S - 1) = 0) (a : Nat) : ¬ SP S a := fun q => by
  rcases SP_low hS q with e | e
  · rw [h, Nat.and_zero] at e
    have := q.1
    omega
  · rw [h, Nat.and_zero] at e
    have := (SP_o q).1
    omega
theorem xr_b {S i : Nat} : (S.testBit i = true) ↔ S / 2 ^ i % 2 = 1 := by
  rw [Nat.testBit_eq_decide_div_mod_eq]
  simp
/-- the lesser of two parts -/
def SR (S a : Nat) : Prop := SP S a ∧ a ≤ S ^^^ a
def fc_I (G c : Nat → Nat) (S k : Nat) (w : Int32) : Prop := (S &&& (S - 1) = 0 ∧ w = 0) ∨ (S &&& (S - 1) ≠ 0 ∧ ((w = -1 ∧ ∀ t, SR S t → ¬ t < k) ∨ ∃ v, w = nI v ∧ v < 2 ^ 30 ∧ (∀ t, SR S t → t < k → v ≤ cst G c S t) ∧ ∃ t, SR S t ∧ v = cst G c S t))
section COE
variable {d : Nat} {M : mm_M} {G c : Nat → Nat} {S : Nat}
set_option maxRecDepth 100000 in
theorem fc_l1 {P : am_Q} {X : am_X} (hX : am_K d false nm_X12_findCost P X) (hS : S < 512) (h166 : ∀ i, i < 9 → M.1 166 i = nI (G i)) (hK : ∀ l2 l3 l4, X 45 [some (aR 108), some (aI (nI S)), l2, l3, l4] [] (mm_i M 167 (upd (M.1 167) S (nI (xl G S))))) : ∀ (m i : Nat), i + m = 9 → ∀ l3 l4, X 9 [some (aR 108), some (aI (nI S)), some (aI (nI i)), l3, l4] [] (mm_i M 167 (upd (M.1 167) S (nI (xr G S i)))) := by
  intro m
  induction m with
  | zero =>
    intro i hi l3 l4
    have hi : i = 9 := by omega
    subst hi
    refine am_run hX 3 _ _ _ _ ?_
    conv => whnf
    refine ⟨fun _ => hK _ _ _, fun c => absurd (by decide) c⟩
  | succ m ih =>
    intro i hi l3 l4
    refine am_run hX 3 _ _ _ _ ?_
    conv => whnf
    refine ⟨fun c => absurd c (nI_ge (a := i) (b := 9) (by omega) (by decide)), fun _ => ?_⟩
    refine am_run hX 7 _ _ _ _ ?_
    conv => whnf
    rw [nI_sh (by omega) i (by omega), nI_m1]
    refine ⟨fun hc => ?_, fun hc => ?_⟩
    · refine am_run hX 2 _ _ _ _ ?_
      conv => whnf
      rw [nI_1]
      have hb : ¬ S.testBit i = true := fun q => hc (by rw [xr_b.mp q]; rfl)
      have := ih (i + 1) (by omega) l3 l4
      simp only [xr, if_neg hb, Nat.xor_zero] at this
      exact this
    · have hb : S.testBit i = true := by
        rw [xr_b]
        rcases Nat.mod_two_eq_zero_or_one (S / 2 ^ i) with e | e
        · exact absurd (by rw [e]; decide) hc
        · exact e
      refine am_run hX 13 _ _ _ _ ?_
      conv => whnf
      refine ⟨vp_in_nI (by show _ < 512; omega) (by decide), ?_⟩
      conv => whnf
      refine ⟨vp_in_nI (by show _ < 9; omega) (by decide), ?_⟩
      conv => whnf
      refine ⟨vp_in_nI (by show _ < 512; omega) (by decide), ?_⟩
      conv => whnf
      rw [nI_1, nI_clamp (n := S) (by omega), nI_clamp (n := i) (by omega), mm_ne _ 167 166 _ (by decide), mm_i1, h166 i (by omega), mm_ii, upd_two]
      have e1 : upd (M.1 167) S (nI (xr G S i)) S = nI (xr G S i) := by simp [upd]
      rw [e1, nI_xor]
      have := ih (i + 1) (by omega) l3 l4
      simp only [xr, if_pos hb] at this
      exact this
set_option maxRecDepth 100000 in
theorem fc_l2 {P : am_Q} {X : am_X} {f g : Nat → Int32} (hX : am_K (d + 1) false nm_X12_findCost P X) (hS : S < 512) (hG : ∀ i, i < 9 → G i < 65536) (hf : ∀ T, 0 < T → T < S → f T = nI (xl G T)) (hg : ∀ T, 0 < T → T < S → g T = nI (c T)) (hb : ∀ T, 0 < T → T < S → c T ≤ 65536 * (T - 1)) (hP : ∀ w, fc_I G c S S w → P (.inl none) (mm_i (mm_i M 167 f) 168 (upd g S w))) : ∀ (m k : Nat), k + m = S → 0 < k → ∀ w, fc_I G c S k w → ∀ l3 l4, X 69 [some (aR 108), some (aI (nI S)), some (aI (nI k)), l3, l4] [] (mm_i (mm_i M 167 f) 168 (upd g S w)) := by
  intro m
  induction m with
  | zero =>
    intro k hk hk0 w hw l3 l4
    have hk : k = S := by omega
    subst hk
    refine am_run hX 4 _ _ _ _ ?_
    conv => whnf
    refine ⟨fun _ => ?_, fun c => absurd (nI_le (Nat.le_refl _) (by omega)) c⟩
    conv => whnf
    exact ⟨trivial, hP w hw⟩
  | succ m ih =>
    intro k hk hk0 w hw l3 l4
    have hkS : k < S := by omega
    refine am_run hX 3 _ _ _ _ ?_
    conv => whnf
    refine ⟨fun c => absurd c (nI_ge (by omega) (by omega)), fun _ => ?_⟩
    refine am_run hX 12 _ _ _ _ ?_
    conv => whnf
    rw [nI_andn, nI_andn]
    have hskip : ¬ SR S k → ∀ l3 l4, X 159 [some (aR 108), some (aI (nI S)), some (aI (nI k)), l3, l4] [] (mm_i (mm_i M 167 f) 168 (upd g S w)) := fun hn l3 l4 => by
      refine am_run hX 2 _ _ _ _ ?_
      conv => whnf
      rw [nI_1]
      refine ih (k + 1) (by omega) (by omega) w ?_ _ _
      rcases hw with hw | ⟨hp, ⟨e, q⟩ | ⟨v, e, vb, q, t⟩⟩
      · exact Or.inl hw
      · refine Or.inr ⟨hp, Or.inl ⟨e, fun t ht hlt => ?_⟩⟩
        by_cases e2 : t = k
        · rw [e2] at ht; exact hn ht
        · exact q t ht (by omega)
      · refine Or.inr ⟨hp, Or.inr ⟨v, e, vb, fun t ht hlt => ?_, t⟩⟩
        by_cases e2 : t = k
        · rw [e2] at ht; exact absurd ht hn
        · exact q t ht (by omega)
    have hkx : k ^^^ (k &&& S) < 512 := Nat.xor_lt_two_pow (n := 9) (by omega) (Nat.lt_of_le_of_lt Nat.and_le_left (by omega))
    refine ⟨fun hc => ?_, fun hc => ?_⟩
    · refine hskip (fun q => ?_) _ _
      have hc : ¬ nI (k ^^^ (k &&& S)) = 0 := hc
      rw [q.1.2.2, Nat.xor_self] at hc
      exact hc rfl
    · have hsub : k &&& S = k := by
        have hc : ¬ ¬ nI (k ^^^ (k &&& S)) = 0 := hc
        have h1 : k ^^^ (k &&& S) = 0 := by
          apply Decidable.byContradiction
          intro h2
          exact hc (nI_ne0 (by omega) (by omega))
        have h2 : k ^^^ (k ^^^ (k &&& S)) = k &&& S := sb_xx k _
        rw [h1, Nat.xor_zero] at h2
        exact h2.symm
      have hsp : SP S k := ⟨hk0, hkS, hsub⟩
      have hso := SP_o hsp
      have hot := hso.2.1
      have hS2 : S &&& k = k := by rw [Nat.and_comm]; exact hsub
      rw [hS2]
      refine am_run hX 3 _ _ _ _ ?_
      conv => whnf
      refine ⟨fun hle => ?_, fun hle => ?_⟩
      · have hle : k ≤ S ^^^ k := by
          apply Decidable.byContradiction
          intro h2
          exact nI_ge (a := S ^^^ k) (b := k) (by omega) (by omega) hle
        have hsr : SR S k := ⟨hsp, hle⟩
        have hcb := cst_b hG hb hsp
        have hwn := wt_n hG k (S ^^^ k)
        refine am_run hX 29 _ _ _ _ ?_
        conv => whnf
        refine ⟨vp_in_nI (by show k < 512; omega) (by decide), ?_⟩
        conv => whnf
        refine ⟨vp_in_nI (by show _ < 512; omega) (by decide), ?_⟩
        conv => whnf
        refine ⟨vp_in_nI (by show k < 512; omega) (by decide), ?_⟩
        conv => whnf
        refine ⟨vp_in_nI (by show _ < 512; omega) (by decide), ?_⟩
        conv => whnf
        have a1 : (mm_i (mm_i M 167 f) 168 (upd g S w)).1 168 k = nI (c k) := by
          rw [mm_i1]; unfold upd; rw [if_neg (by omega)]; exact hg k hk0 hkS
        have a2 : (mm_i (mm_i M 167 f) 168 (upd g S w)).1 168 (S ^^^ k) = nI (c (S ^^^ k)) := by
          rw [mm_i1]; unfold upd; rw [if_neg (by omega)]; exact hg _ hso.1 hot
        have a3 : (mm_i (mm_i M 167 f) 168 (upd g S w)).1 167 k = nI (xl G k) := by
          rw [mm_ne _ _ _ _ (by decide), mm_i1]; exact hf k hk0 hkS
        have a4 : (mm_i (mm_i M 167 f) 168 (upd g S w)).1 167 (S ^^^ k) = nI (xl G (S ^^^ k)) := by
          rw [mm_ne _ _ _ _ (by decide), mm_i1]; exact hf _ hso.1 hot
        rw [nI_clamp (n := k) (by omega), nI_clamp (n := S ^^^ k) (by omega), a1, a2, a3, a4, nI_or]
        refine am_c1 (ct_count d _ (by omega) _) ?_
        rw [nI_add]
        conv => whnf
        refine ⟨vp_in_nI (by show _ < 512; omega) (by decide), ?_⟩
        conv => whnf
        have a5 : (mm_i (mm_i M 167 f) 168 (upd g S w)).1 168 S = w := by
          rw [mm_i1]; simp [upd]
        rw [sh2 _ (by omega), nI_add, nI_clamp (n := S) (by omega), a5]
        have ec : c k + c (S ^^^ k) + 2 ^ pc (xl G k ||| xl G (S ^^^ k)) = cst G c S k := rfl
        rw [ec]
        have hput : ((w = -1 ∧ ∀ t, SR S t → ¬ t < k) ∨ ∃ v, w = nI v ∧ v < 2 ^ 30 ∧ cst G c S k < v ∧ (∀ t, SR S t → t < k → v ≤ cst G c S t)) → S &&& (S - 1) ≠ 0 → ∀ l3, X 151 [some (aR 108), some (aI (nI S)), some (aI (nI k)), l3, some (aI (nI (cst G c S k)))] [] (mm_i (mm_i M 167 f) 168 (upd g S w)) := fun hq hp l3 => by
          refine am_run hX 7 _ _ _ _ ?_
          conv => whnf
          refine ⟨vp_in_nI (by show _ < 512; omega) (by decide), ?_⟩
          conv => whnf
          rw [nI_clamp (by omega), mm_i1, mm_ii, upd_two, nI_1]
          refine ih (k + 1) (by omega) (by omega) _ (Or.inr ⟨hp, Or.inr ⟨cst G c S k, rfl, by omega, fun t ht hlt => ?_, k, hsr, rfl⟩⟩) _ _
          by_cases e2 : t = k
          · rw [e2]; exact Nat.le_refl _
          · rcases hq with ⟨_, q⟩ | ⟨v, _, _, q1, q2⟩
            · exact absurd (show t < k by omega) (q t ht)
            · have := q2 t ht (by omega)
              omega
        have hp : S &&& (S - 1) ≠ 0 := fun e => SP_no hS e k hsp
        rcases hw with hw | ⟨_, ⟨e, q⟩ | ⟨v, e, vb, q, t⟩⟩
        · exact absurd hw.1 hp
        · refine ⟨fun _ => ?_, fun hc => absurd e hc⟩
          exact hput (Or.inl ⟨e, q⟩) hp _
        · refine ⟨fun hc => ?_, fun _ => ?_⟩
          · rw [e] at hc
            exact absurd hc (by
              intro q9
              have := nI_pos (n := v) (by omega)
              rw [q9] at this
              exact this (by decide))
          · refine am_run hX 6 _ _ _ _ ?_
            conv => whnf
            refine ⟨vp_in_nI (by show _ < 512; omega) (by decide), ?_⟩
            conv => whnf
            rw [nI_clamp (n := S) (by omega), a5, e]
            refine ⟨fun hc => ?_, fun hc => ?_⟩
            · have hge : v ≤ cst G c S k := by
                apply Decidable.byContradiction
                intro h2
                exact nI_ge (a := cst G c S k) (b := v) (by omega) (by omega) hc
              refine am_run hX 2 _ _ _ _ ?_
              conv => whnf
              rw [nI_1]
              have := ih (k + 1) (by omega) (by omega) w (Or.inr ⟨hp, Or.inr ⟨v, e, vb, fun t ht hlt => ?_, t⟩⟩)
              · rw [e] at this
                exact this _ _
              · by_cases e2 : t = k
                · rw [e2]; exact hge
                · exact q t ht (by omega)
            · have hlt : cst G c S k < v := by
                apply Decidable.byContradiction
                intro h2
                exact hc (nI_le (by omega) (by omega))
              have := hput (Or.inr ⟨v, e, vb, hlt, q⟩) hp
              rw [e] at this
              exact this _
      · refine am_run hX 1 _ _ _ _ ?_
        conv => whnf
        refine hskip (fun q => ?_) _ _
        exact hle (nI_le q.2 (by omega))
end COE
