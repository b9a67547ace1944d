/-! derive, MERGED: parities, and the class's steps -/
/-- the parity of a WIRE and whether it is turned, behind one OP -/
def pst (σ : (Nat → Nat) × (Nat → Bool)) (x : bk_X) : (Nat → Nat) × (Nat → Bool) :=
  if x.1 = 8 then (fun i => if i = x.2.1 then σ.1 x.2.2.1 else if i = x.2.2.1 then σ.1 x.2.1 else σ.1 i, fun i => if i = x.2.1 then σ.2 x.2.2.1 else if i = x.2.2.1 then σ.2 x.2.1 else σ.2 i)
  else if x.1 = 0 then
    if x.2.2.2.1 = 0 then (σ.1, fun i => if i = x.2.1 then !(σ.2 i) else σ.2 i)
    else (fun i => if i = x.2.1 then σ.1 i ^^^ σ.1 (lw x.2.2.2.1) else σ.1 i, fun i => if i = x.2.1 then (σ.2 i != σ.2 (lw x.2.2.2.1)) else σ.2 i)
  else σ
/-- can be MERGED -/
def mgB (x : bk_X) : Bool := decide ((x.1 = 0 ∧ pc x.2.2.2.1 ≤ 1) ∨ (x.2.2.2.1 = 0 ∧ (x.1 = 8 ∨ egN x.1 ≠ 0)))
/-- the class has these parities -/
def pcM (N : mm_M) (σ : (Nat → Nat) × (Nat → Bool)) : Prop := (∀ i, i < 8 → N.1 15 i = nI (σ.1 i) ∧ σ.1 i < 256) ∧ ∃ r, r < 256 ∧ N.1 9 9 = nI r ∧ ∀ i, i < 8 → r.testBit i = σ.2 i
def paF (M N : mm_M) : Prop := (∀ k, k ≠ 9 → k ≠ 15 → N.1 k = M.1 k) ∧ N.2 = M.2 ∧ ∀ y, y ≠ 9 → N.1 9 y = M.1 9 y
theorem paF_r (M : mm_M) : paF M M := ⟨fun _ _ _ => rfl, rfl, fun _ _ => rfl⟩
theorem paF_t {M N K : mm_M} (h : paF M N) (g : paF N K) : paF M K := ⟨fun k a b => (g.1 k a b).trans (h.1 k a b), g.2.1.trans h.2.1, fun y a => (g.2.2 y a).trans (h.2.2 y a)⟩
theorem paF_i {M : mm_M} {f : Nat → Int32} : paF M (mm_i M 15 f) := ⟨fun j _ b => mm_ne _ _ _ _ b, rfl, fun y _ => by rw [mm_ne _ _ _ _ (by decide)]⟩
theorem paF_f {M : mm_M} {v : Int32} : paF M (mm_i M 9 (upd (M.1 9) 9 v)) := ⟨fun j a _ => mm_ne _ _ _ _ a, rfl, fun y hy => by rw [mm_i1]; exact if_neg hy⟩
theorem pst_l {σ : (Nat → Nat) × (Nat → Bool)} {W : Nat} {x : bk_X} (h : ∀ i, i < 8 → σ.1 i < 256) (hW : W ≤ 8) (hx : ogd W x) : ∀ i, i < 8 → (pst σ x).1 i < 256 := by
  intro i hi
  have h8 := w256 hW
  have hw := hx.1.2.1
  have hs := hx.1.2.2.1
  have hcl := hx.1.2.2.2.1
  unfold pst
  by_cases c8 : x.1 = 8
  · rw [if_pos c8]
    show (if i = x.2.1 then σ.1 x.2.2.1 else if i = x.2.2.1 then σ.1 x.2.1 else σ.1 i) < 256
    split
    · exact h _ hs
    · split
      · exact h _ (by omega)
      · exact h i hi
  · rw [if_neg c8]
    by_cases c0 : x.1 = 0
    · rw [if_pos c0]
      by_cases cc : x.2.2.2.1 = 0
      · rw [if_pos cc]
        exact h i hi
      · rw [if_neg cc]
        have hl := (lw_f x.2.2.2.1 (by omega) (by omega)).2.2.2.1
        have hl8 : lw x.2.2.2.1 < 8 := by
          apply Classical.byContradiction
          intro q
          rw [Nat.testBit_lt_two_pow (Nat.lt_of_lt_of_le (show x.2.2.2.1 < 2 ^ 8 by omega) (Nat.pow_le_pow_right (by decide) (by omega)))] at hl
          cases hl
        show (if i = x.2.1 then σ.1 i ^^^ σ.1 (lw x.2.2.2.1) else σ.1 i) < 256
        split
        · exact Nat.xor_lt_two_pow (n := 8) (h i hi) (h _ hl8)
        · exact h i hi
    · rw [if_neg c0]
      exact h i hi
section MRA
variable {d : Nat} {M : mm_M} {W : Nat}
set_option maxRecDepth 100000 in
theorem fi_l16 {v : Int32} {P : am_Q} {X : am_X} (hX : am_K d false nm_J7_fill_53178 P X) (hP : P (.inl none) (mm_i M 16 (fun j => if j < 256 then v else M.1 16 j))) : ∀ (m i : Nat), i + m = 256 → X 5 [some (aR 16), some (aI v), some (aI (nI i)), some (aI (nI 256))] [] (mm_i M 16 (fun j => if j < i then v else M.1 16 j)) := by
  intro m
  induction m with
  | zero =>
    intro i hi
    have hi : i = 256 := by omega
    subst hi
    refine am_run hX 4 _ _ _ _ ?_
    conv => whnf
    refine ⟨fun _ => ?_, fun c => absurd (by decide) c⟩
    conv => whnf
    exact ⟨trivial, hP⟩
  | succ m ih =>
    intro i hi
    refine am_run hX 3 _ _ _ _ ?_
    conv => whnf
    refine ⟨fun c => absurd c (nI_ge (by omega) (by decide)), fun _ => ?_⟩
    refine am_run hX 6 _ _ _ _ ?_
    conv => whnf
    refine ⟨vp_in_nI (by show _ < 256; omega) (by decide), ?_⟩
    conv => whnf
    rw [nI_clamp (n := i) (by omega), nI_1, mi_two, mm_i1]
    have e : upd (fun j => if j < i then v else M.1 16 j) i v = fun j => if j < i + 1 then v else M.1 16 j := by
      funext j
      unfold upd
      by_cases h : j = i
      · rw [if_pos h, if_pos (by omega)]
      · rw [if_neg h]
        dsimp only
        by_cases h2 : j < i
        · rw [if_pos h2, if_pos (by omega)]
        · rw [if_neg h2, if_neg (by omega)]
    rw [e]
    exact ih (i + 1) (by omega)
set_option maxRecDepth 100000 in
theorem ct_fi16 {v : Int32} : am_M (d + 1) false nm_J7_fill_53178 [aR 16, aI v] M (am_q0 (mm_i M 16 (fun j => if j < 256 then v else M.1 16 j))) := by
  refine ⟨rfl, rfl, rfl, fun X hX => am_run hX 5 _ _ _ _ ?_⟩
  conv => whnf
  have key := fi_l16 (M := M) (v := v) hX ⟨rfl, rfl⟩ 256 0 (by omega)
  have e : (fun j => if j < 0 then v else M.1 16 j) = M.1 16 := by
    funext j
    rw [if_neg (by omega)]
  rw [e, mm_iz] at key
  exact key
set_option maxRecDepth 100000 in
theorem sp_l {P : am_Q} {X : am_X} (hX : am_K d false nm_X0_startParities P X) (hP : ∀ N, paF M N → pcM N (fun i => 2 ^ i, fun _ => false) → P (.inl none) N) : ∀ (m i : Nat) (N : mm_M), i + m = 8 → paF M N → N.1 9 9 = 0 → (∀ j, j < i → N.1 15 j = nI (2 ^ j)) → X 7 [some (aR 9), some (aI (nI i))] [] N := by
  intro m
  induction m with
  | zero =>
    intro i N hi hF h9 hc
    obtain rfl : i = 8 := by omega
    refine am_run hX 6 _ _ _ _ ?_
    conv => whnf
    refine ⟨fun _ => ?_, fun q => absurd (by decide) q⟩
    conv => whnf
    exact ⟨trivial, hP N hF ⟨fun j hj => ⟨hc j hj, p2_8 hj⟩, 0, by decide, h9, fun j _ => Nat.zero_testBit j⟩⟩
  | succ m ih =>
    intro i N hi hF h9 hc
    refine am_run hX 5 _ _ _ _ ?_
    conv => whnf
    refine ⟨fun q => absurd q (nI_ge (a := i) (b := 8) (by omega) (by decide)), fun _ => ?_⟩
    refine am_run hX 9 _ _ _ _ ?_
    conv => whnf
    refine ⟨vp_in_nI (by show i < 8; omega) (by decide), ?_⟩
    conv => whnf
    rw [nI_clamp (n := i) (by omega), sh2 i (by omega), nI_1]
    refine ih (i + 1) _ (by omega) (paF_t hF paF_i) h9 (fun j hj => ?_)
    rw [mm_i1]
    by_cases q : j = i
    · subst q
      exact if_pos rfl
    · exact (if_neg q).trans (hc j (by omega))
set_option maxRecDepth 100000 in
theorem ct_stPa : am_M (d + 1) false nm_X0_startParities [aR 9] M (fun r N => r = .inl none ∧ paF M N ∧ pcM N (fun i => 2 ^ i, fun _ => false)) := by
  refine ⟨rfl, rfl, rfl, fun X hX => am_run hX 5 _ _ _ _ ?_⟩
  conv => whnf
  exact sp_l (d := d) (M := M) hX (fun N a b => ⟨rfl, a, b⟩) 8 0 _ (by omega) paF_f (by rw [mm_i1]; rfl) (fun j hj => absurd hj (Nat.not_lt_zero _))
set_option maxRecDepth 100000 in
theorem ct_seen {σ : (Nat → Nat) × (Nat → Bool)} {w e : Nat} (h : pcM M σ) (hw : w < 8) (he : e ≤ 8) : am_M (d + 1) false nm_X0_seenFrom [aR 9, aI (nI w), aI (nI e)] M (am_q1 (aI (nI (if σ.2 w = true then 8 - e else e))) M) := by
  obtain ⟨_, r, r8, h9, hr⟩ := h
  refine ⟨rfl, rfl, rfl, fun X hX => am_run hX 12 _ _ _ _ ?_⟩
  conv => whnf
  rw [h9, nI_sh (by omega) w (by omega), nI_m1, show (0 : Int32) = nI 0 from rfl, nI_eq (by omega) (by decide)]
  have hb := hr w hw
  refine ⟨fun q => ?_, fun q => ?_⟩
  · have e0 : σ.2 w = false := by
      rw [← hb]
      exact Bool.eq_false_iff.mpr (fun z => by have := (tb_d _ _).mp z; omega)
    rw [e0] at hX
    conv => whnf
    rw [e0]
    exact ⟨trivial, rfl, rfl⟩
  · have e0 : σ.2 w = true := by
      rw [← hb]
      exact (tb_d _ _).mpr (by omega)
    conv => whnf
    rw [show (8 : Int32) = nI 8 from rfl, nI_sub he, e0]
    exact ⟨trivial, rfl, rfl⟩
theorem bt_2p (r p i : Nat) : (r ^^^ 2 ^ p).testBit i = (r.testBit i != decide (i = p)) := by
  rw [Nat.testBit_xor, Nat.testBit_two_pow]
  by_cases q : i = p
  · rw [decide_eq_true q, decide_eq_true q.symm]
  · rw [decide_eq_false q, decide_eq_false (fun e => q e.symm)]
set_option maxRecDepth 100000 in
theorem ct_stepP {σ : (Nat → Nat) × (Nat → Bool)} {x : bk_X} (hW : W ≤ 8) (hx : ogd W x) (hk : x.1 = 8 ∨ x.1 = 0) (h : pcM M σ) : am_M (d + 3) false nm_X0_stepParities [aR 9, aI (nI (bk_p x))] M (fun r N => r = .inl none ∧ paF M N ∧ pcM N (pst σ x)) := by
  have h8 := w256 hW
  have ow := hx.1
  have hw : x.2.1 < 8 := by have := ow.2.1; omega
  have hs := ow.2.2.1
  have hcl := ow.2.2.2.1
  have hpl := pst_l (fun i hi => (h.1 i hi).2) hW hx
  obtain ⟨hp, r, r8, h9, hr⟩ := h
  have hIw : vp_in (nI x.2.1) 8 := vp_in_nI hw (by decide)
  refine ⟨rfl, rfl, rfl, fun X hX => am_run hX 7 _ _ _ _ ?_⟩
  conv => whnf
  refine am_c1 (ct_wireOf (d := d + 1)) ?_
  rw [bk_wi hW ow]
  conv => whnf
  refine am_c1 (ct_kind (d := d + 1)) ?_
  rw [bk_k hW ow]
  conv => whnf
  by_cases c8 : x.1 = 8
  · -- exchange
    have hxs := hx.2.2 c8
    have hIs : vp_in (nI x.2.2.1) 8 := vp_in_nI hs (by decide)
    rw [c8]
    refine ⟨fun q => absurd rfl q, fun _ => ?_⟩
    refine am_run hX 33 _ _ _ _ ?_
    conv => whnf
    refine am_c1 (ct_secondOf (d := d + 1)) ?_
    rw [bk_s hW ow]
    conv => whnf
    refine ⟨hIw, ?_⟩
    conv => whnf
    refine ⟨hIs, ?_⟩
    conv => whnf
    refine ⟨hIw, ?_⟩
    conv => whnf
    refine ⟨hIs, ?_⟩
    conv => whnf
    rw [nI_clamp (n := x.2.1) (by omega), nI_clamp (n := x.2.2.1) (by omega), (hp _ hw).1, (hp _ hs).1, mm_i1, mm_ii]
    generalize hN1 : mm_i M 15 (upd (upd (M.1 15) x.2.1 (nI (σ.1 x.2.2.1))) x.2.2.1 (nI (σ.1 x.2.1))) = N1
    have n9 : N1.1 9 = M.1 9 := by rw [← hN1]; exact mm_ne _ _ _ _ (by decide)
    have n15 : ∀ i, i < 8 → N1.1 15 i = nI ((pst σ x).1 i) := by
      intro i hi
      have e : (pst σ x).1 i = if i = x.2.1 then σ.1 x.2.2.1 else if i = x.2.2.1 then σ.1 x.2.1 else σ.1 i := by
        unfold pst
        rw [if_pos c8]
      rw [← hN1, mm_i1, e]
      unfold upd
      by_cases q1 : i = x.2.2.1
      · rw [if_pos q1, if_neg (fun z => hxs.2.1 (z.symm.trans q1)), if_pos q1]
      · rw [if_neg q1]
        by_cases q2 : i = x.2.1
        · rw [if_pos q2, if_pos q2]
        · rw [if_neg q2, if_neg q2, if_neg q1]
          exact (hp i hi).1
    have e2 : ∀ i, (pst σ x).2 i = if i = x.2.1 then σ.2 x.2.2.1 else if i = x.2.2.1 then σ.2 x.2.1 else σ.2 i := by
      intro i
      unfold pst
      rw [if_pos c8]
    have hf1 : paF M N1 := by
      rw [← hN1]
      exact paF_i
    rw [n9, h9, nI_sh (by omega) x.2.1 (by omega), nI_sh (by omega) x.2.2.1 (by omega), nI_xor, nI_m1]
    have hx2 : (r / 2 ^ x.2.1 ^^^ r / 2 ^ x.2.2.1) % 2 = (r / 2 ^ x.2.1 % 2 + r / 2 ^ x.2.2.1 % 2) % 2 := by
      have hm := Nat.xor_mod_two_pow (a := r / 2 ^ x.2.1) (b := r / 2 ^ x.2.2.1) (n := 1)
      rw [Nat.pow_one] at hm
      rw [hm]
      rcases Nat.mod_two_eq_zero_or_one (r / 2 ^ x.2.1) with a | a <;> rcases Nat.mod_two_eq_zero_or_one (r / 2 ^ x.2.2.1) with b | b <;> rw [a, b] <;> rfl
    have bw := hr x.2.1 hw
    have bs := hr x.2.2.1 hs
    have dw := tb_d r x.2.1
    have ds := tb_d r x.2.2.1
    rw [bw] at dw
    rw [bs] at ds
    rw [show (0 : Int32) = nI 0 from rfl, nI_eq (by omega) (by decide), hx2]
    refine ⟨fun q => ?_, fun q => ?_⟩
    · -- both alike
      have hsame : σ.2 x.2.1 = σ.2 x.2.2.1 := by
        cases a : σ.2 x.2.1 <;> cases b : σ.2 x.2.2.1 <;> rw [a] at dw <;> rw [b] at ds <;> simp only [Bool.false_eq_true, true_iff, false_iff] at dw ds <;> first | rfl | (exfalso; omega)
      refine am_run hX 12 _ _ _ _ ?_
      conv => whnf
      refine ⟨fun _ => ?_, fun z => absurd rfl z⟩
      conv => whnf
      rw [n9, h9, show nI r ^^^ 0 = nI r from by rw [show (0 : Int32) = nI 0 from rfl, nI_xor, Nat.xor_zero]]
      refine ⟨trivial, rfl, paF_t hf1 (by rw [← n9]; exact paF_f), ⟨fun i hi => ⟨?_, hpl i hi⟩, r, r8, ?_, fun i hi => ?_⟩⟩
      · rw [mm_ne _ _ _ _ (by decide)]
        exact n15 i hi
      · rw [mm_i1]
        rfl
      · rw [e2 i]
        by_cases q1 : i = x.2.1
        · rw [if_pos q1, q1, bw, hsame]
        · rw [if_neg q1]
          by_cases q2 : i = x.2.2.1
          · rw [if_pos q2, q2, bs, hsame]
          · rw [if_neg q2]
            exact hr i hi
    · have hdiff : σ.2 x.2.1 = !(σ.2 x.2.2.1) := by
        cases a : σ.2 x.2.1 <;> cases b : σ.2 x.2.2.1 <;> rw [a] at dw <;> rw [b] at ds <;> simp only [Bool.false_eq_true, true_iff, false_iff] at dw ds <;> first | rfl | (exfalso; omega)
      refine am_run hX 20 _ _ _ _ ?_
      conv => whnf
      refine ⟨fun z => absurd z (by decide), fun _ => ?_⟩
      conv => whnf
      rw [n9, h9, sh2 _ (by omega), sh2 _ (by omega), nI_or, nI_xor]
      have hor : ∀ i, (r ^^^ (2 ^ x.2.1 ||| 2 ^ x.2.2.1)).testBit i = (r.testBit i != (decide (i = x.2.1) || decide (i = x.2.2.1))) := by
        intro i
        rw [Nat.testBit_xor, Nat.testBit_or, Nat.testBit_two_pow, Nat.testBit_two_pow]
        congr 2
        · exact decide_eq_decide.mpr eq_comm
        · exact decide_eq_decide.mpr eq_comm
      refine ⟨trivial, rfl, paF_t hf1 (by rw [← n9]; exact paF_f), ⟨fun i hi => ⟨?_, hpl i hi⟩, r ^^^ (2 ^ x.2.1 ||| 2 ^ x.2.2.1), ?_, ?_, fun i hi => ?_⟩⟩
      · rw [mm_ne _ _ _ _ (by decide)]
        exact n15 i hi
      · exact Nat.xor_lt_two_pow (n := 8) r8 (Nat.or_lt_two_pow (n := 8) (p2_8 hw) (p2_8 hs))
      · rw [mm_i1]
        rfl
      · rw [e2 i, hor i]
        by_cases q1 : i = x.2.1
        · rw [if_pos q1, q1, bw, hdiff, decide_eq_true rfl]
          simp
        · rw [if_neg q1, decide_eq_false q1]
          by_cases q2 : i = x.2.2.1
          · rw [if_pos q2, q2, bs, hdiff, decide_eq_true rfl]
            simp
          · rw [if_neg q2, decide_eq_false q2, hr i hi]
            simp
  · have c0 : x.1 = 0 := hk.resolve_left c8
    refine ⟨fun _ => ?_, fun q => absurd (fun z => c8 ((nI_eq (a := x.1) (b := 8) (by omega) (by decide)).mp z)) q⟩
    refine am_run hX 3 _ _ _ _ ?_
    conv => whnf
    refine am_c1 (ct_controlsOf (d := d + 1)) ?_
    rw [bk_cc hW ow]
    conv => whnf
    rw [show (0 : Int32) = nI 0 from rfl, nI_eq (by omega) (by decide)]
    refine ⟨fun cc => ?_, fun cc => ?_⟩
    · -- one CONTROL
      obtain ⟨_, _, _, l4, _⟩ := lw_f x.2.2.2.1 (by omega) (by omega)
      have hl8 : lw x.2.2.2.1 < 8 := by
        apply Classical.byContradiction
        intro q
        rw [Nat.testBit_lt_two_pow (Nat.lt_of_lt_of_le (show x.2.2.2.1 < 2 ^ 8 by omega) (Nat.pow_le_pow_right (by decide) (by omega)))] at l4
        cases l4
      have hlw : lw x.2.2.2.1 ≠ x.2.1 := fun q => by
        rw [q, hx.2.1] at l4
        cases l4
      refine am_run hX 40 _ _ _ _ ?_
      conv => whnf
      refine am_c1 (ct_controlsOf (d := d + 1)) ?_
      rw [bk_cc hW ow]
      conv => whnf
      refine am_c1 (ct_low (d := d) (S := x.2.2.2.1) (by omega) (by omega)) ?_
      conv => whnf
      rw [nI_m7, Nat.mod_eq_of_lt hl8]
      generalize hb : lw x.2.2.2.1 = b at hl8 hlw
      refine ⟨hIw, ?_⟩
      conv => whnf
      refine ⟨vp_in_nI (n := b) (N := 8) hl8 (by decide), ?_⟩
      conv => whnf
      refine ⟨hIw, ?_⟩
      conv => whnf
      rw [nI_clamp (n := x.2.1) (by omega), nI_clamp (n := b) (by omega), (hp _ hw).1, (hp _ hl8).1, nI_xor, mm_ne M 15 9 _ (by decide), h9, nI_sh (by omega) b (by omega), nI_m1, nI_shl (by omega) (by have := p2_8 hw; rcases Nat.mod_two_eq_zero_or_one (r / 2 ^ b) with z | z <;> rw [z] <;> omega), nI_xor]
      have e1 : ∀ i, (pst σ x).1 i = if i = x.2.1 then σ.1 i ^^^ σ.1 b else σ.1 i := by
        intro i
        unfold pst
        rw [if_neg c8, if_pos c0, if_neg cc, hb]
      have e2 : ∀ i, (pst σ x).2 i = if i = x.2.1 then (σ.2 i != σ.2 b) else σ.2 i := by
        intro i
        unfold pst
        rw [if_neg c8, if_pos c0, if_neg cc, hb]
      have bb := hr b hl8
      have db := tb_d r b
      rw [bb] at db
      refine ⟨trivial, rfl, paF_t paF_i ⟨fun k a b => mm_ne _ _ _ _ a, rfl, fun y hy => by rw [mm_i1]; refine (if_neg hy).trans ?_; rw [mm_ne _ _ _ _ (by decide)]⟩, ⟨fun i hi => ⟨?_, hpl i hi⟩, r ^^^ (r / 2 ^ b % 2 * 2 ^ x.2.1), ?_, ?_, fun i hi => ?_⟩⟩
      · rw [mm_ne _ _ _ _ (by decide), mm_i1, e1 i]
        by_cases q : i = x.2.1
        · rw [if_pos q, q]
          exact if_pos rfl
        · rw [if_neg q]
          exact (if_neg q).trans (hp i hi).1
      · refine Nat.xor_lt_two_pow (n := 8) r8 ?_
        have := p2_8 hw
        rcases Nat.mod_two_eq_zero_or_one (r / 2 ^ b) with z | z <;> rw [z] <;> omega
      · rw [mm_i1]
        rfl
      · rw [e2 i]
        cases hs2 : σ.2 b with
        | true =>
          have z := db.mp hs2
          rw [z, Nat.one_mul, bt_2p]
          by_cases q : i = x.2.1
          · rw [if_pos q, decide_eq_true q, hr i hi]
          · rw [if_neg q, decide_eq_false q, hr i hi]
            simp
        | false =>
          have z : r / 2 ^ b % 2 = 0 := by
            rcases Nat.mod_two_eq_zero_or_one (r / 2 ^ b) with z | z
            · exact z
            · rw [db.mpr z] at hs2
              cases hs2
          rw [z, Nat.zero_mul, Nat.xor_zero, hr i hi]
          split <;> simp
    · -- none
      have cc := Decidable.byContradiction cc
      refine am_run hX 14 _ _ _ _ ?_
      conv => whnf
      rw [h9, sh2 _ (by omega), nI_xor]
      have e : pst σ x = (σ.1, fun i => if i = x.2.1 then !(σ.2 i) else σ.2 i) := by
        unfold pst
        rw [if_neg c8, if_pos c0, if_pos cc]
      rw [e]
      refine ⟨trivial, rfl, paF_f, ⟨fun i hi => ⟨?_, (hp i hi).2⟩, r ^^^ 2 ^ x.2.1, Nat.xor_lt_two_pow (n := 8) r8 (p2_8 hw), ?_, fun i hi => ?_⟩⟩
      · rw [mm_ne _ _ _ _ (by decide)]
        exact (hp i hi).1
      · rw [mm_i1]
        rfl
      · rw [bt_2p, hr i hi]
        show _ = if i = x.2.1 then !(σ.2 i) else σ.2 i
        by_cases q : i = x.2.1
        · rw [if_pos q, decide_eq_true q]
          cases σ.2 i <;> rfl
        · rw [if_neg q, decide_eq_false q]
          simp
end MRA
