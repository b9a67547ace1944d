/-! THE CLASS'S turnByOp: it turns a PAULI as the reference's goThrough -/
def pz (y : RW) : PZ := (y.1, y.2.1)
def zC (b a : Nat) (p : PZ) : PZ := (p.1, p.2 ^^^ (bt p.1 b * 2 ^ a ||| bt p.1 a * 2 ^ b))
theorem fH_H (a : Nat) (p : PZ) : fH a (fH a p) = p := by
  obtain ⟨x, z⟩ := p
  have e : (x ^^^ ((x ^^^ z) &&& 2 ^ a)) ^^^ (z ^^^ ((x ^^^ z) &&& 2 ^ a)) = x ^^^ z := by
    rw [Nat.xor_comm z, ← Nat.xor_assoc, xx_c]
  show (_, _) = _
  dsimp only [fH]
  rw [e, xx_c, xx_c]
theorem pz_5 (a b : Nat) (y : RW) : pz (cpl 5 a b y) = fC a b (pz y) := by
  obtain ⟨x, z, s⟩ := y
  have e : ∀ n u v : Nat, n ^^^ bt n u * 2 ^ v = if n.testBit u = true then n ^^^ 2 ^ v else n := by
    intro n u v
    rw [bt_t]
    cases n.testBit u with
    | true => rw [if_pos rfl]; simp
    | false => rw [if_neg (by decide)]; simp
  have e2 : z ^^^ bt z b * 2 ^ a = if z.testBit b = true then z ^^^ 2 ^ a else z := e z b a
  show (x ^^^ bt x a * 2 ^ b, z ^^^ bt z b * 2 ^ a) = _
  rw [e, e2]
  rfl
theorem fC_z {a b : Nat} (hab : a ≠ b) (p : PZ) : fC a b p = fH b (zC b a (fH b p)) := by
  have h := pz_5 a b (p.1, p.2, 0)
  rw [← e_N hab] at h
  exact h.symm
theorem pz_6 {a b : Nat} (hab : a ≠ b) (y : RW) : pz (cpl 6 a b y) = fk1 2 a b (pz y) := by
  rw [← e_Z]
  show zC b a (pz y) = fH b (fC a b (fH b (pz y)))
  rw [fC_z hab, fH_H, fH_H]
theorem pz_17 {a b : Nat} (hab : a ≠ b) (y : RW) : pz (nS b (nH b (nC b a (nH b (nX b (nS b y)))))) = fk1 1 a b (pz y) := by
  show fS b (fH b (zC b a (fH b (fS b (pz y))))) = fS b (fC a b (fS b (pz y)))
  rw [fC_z hab]
theorem exg_f (a b n : Nat) : exg a b n = if n.testBit a = n.testBit b then n else n ^^^ (2 ^ a ||| 2 ^ b) := by
  unfold exg
  rw [xm2]
  show n ^^^ ((bt n a ^^^ bt n b) * 2 ^ a ||| (bt n a ^^^ bt n b) * 2 ^ b) = _
  rw [bt_t, bt_t]
  cases n.testBit a <;> cases n.testBit b <;> simp
theorem pz_8 (a b : Nat) (y : RW) : pz (cpl 7 b a y) = fk0 8 a b (pz y) := by
  rw [← e_W]
  show (exg a b y.1, exg a b y.2.1) = fW a b (pz y)
  rw [exg_f, exg_f]
  rfl
theorem pz_k {k a : Nat} (b : Nat) (hk : k < 5) (y : RW) : pz (sg k a y) = fk0 k a b (pz y) := by
  rcases (by omega : k = 0 ∨ k = 1 ∨ k = 2 ∨ k = 3 ∨ k = 4) with rfl | rfl | rfl | rfl | rfl
  · rfl
  · rfl
  · rfl
  · rw [← e_H]
    rfl
  · rw [← e_S]
    rfl
theorem x2 {u v : Nat} (hu : u < 2) (hv : v < 2) : u ^^^ v < 2 := Nat.xor_lt_two_pow (n := 1) hu hv
theorem a2 {u v : Nat} (hu : u < 2) : u &&& v < 2 := Nat.lt_of_le_of_lt Nat.and_le_left hu
theorem sg_2 {k a : Nat} (hk : k < 5) {y : RW} (h : y.2.2 < 2) : (sg k a y).2.2 < 2 := by
  rcases (by omega : k = 0 ∨ k = 1 ∨ k = 2 ∨ k = 3 ∨ k = 4) with rfl | rfl | rfl | rfl | rfl
  · exact x2 h (bt_lt _ _)
  · exact x2 h (x2 (bt_lt _ _) (bt_lt _ _))
  · exact x2 h (bt_lt _ _)
  · exact x2 h (a2 (bt_lt _ _))
  · exact x2 h (a2 (bt_lt _ _))
theorem cpl_2 {k a b : Nat} (hk : k = 5 ∨ k = 6 ∨ k = 7) {y : RW} (h : y.2.2 < 2) : (cpl k a b y).2.2 < 2 := by
  rcases hk with rfl | rfl | rfl
  · exact x2 h (a2 (a2 (bt_lt _ _)))
  · exact x2 h (a2 (a2 (bt_lt _ _)))
  · exact h
/-- an OP takes a PAULI on -/
def fT (x : bk_X) (p : PZ) : PZ := if x.2.2.2.1 = 0 then fk0 x.1 x.2.1 x.2.2.1 p else fk1 x.1 (lw x.2.2.2.1) x.2.1 p
/-- an OP of those that the document names for that -/
def pln (x : bk_X) : Prop := (x.2.2.2.1 = 0 ∧ (x.1 ≤ 4 ∨ x.1 = 6 ∨ x.1 = 8)) ∨ (x.2.2.2.1 ≠ 0 ∧ x.1 ≤ 2 ∧ pc x.2.2.2.1 = 1)
section CRT
variable {d : Nat} {N : mm_M}
set_option maxRecDepth 100000 in
theorem tb_end {P : am_Q} {X : am_X} {kk aa bb : Int32} {y : RW} (hX : am_K d false nm_X8_turnBy P X) (h3 : N.1 29 3 = nI 1) (hP : P (.inl none) (wD N 0 y)) : X 252 [some (aR 29), some (aI kk), some (aI aa), some (aI bb), some (aI (nI 0))] [] (wD N 0 y) := by
  refine am_run hX 10 _ _ _ _ ?_
  conv => whnf
  rw [show (wD N 0 y).1 29 3 = nI 1 from h3]
  refine ⟨fun _ => ?_, fun c => absurd (by decide) c⟩
  conv => whnf
  exact ⟨trivial, hP⟩
set_option maxRecDepth 100000 in
theorem tb_beg {P : am_Q} {X : am_X} {kk aa bb : Int32} (hX : am_K d false nm_X8_turnBy P X) (h3 : N.1 29 3 = nI 1) (h4 : N.1 29 4 = 0) (hK : X 17 [some (aR 29), some (aI kk), some (aI aa), some (aI bb), some (aI (nI 0))] [] N) : X 0 [some (aR 29), some (aI kk), some (aI aa), some (aI bb), none] [] N := by
  refine am_run hX 9 _ _ _ _ ?_
  conv => whnf
  refine ⟨⟨rfl, rfl⟩, ?_⟩
  rw [show mm_i N 29 (upd (N.1 29) 4 0) = N from by rw [upd_eq h4]; exact mm_iz _ _]
  conv => whnf
  rw [h3]
  refine ⟨fun c => absurd c (by decide), fun _ => ?_⟩
  conv => whnf
  exact hK
set_option maxRecDepth 100000 in
theorem ct_tb0 {k a b : Nat} {y : RW} (hk : k ≤ 4 ∨ k = 6 ∨ k = 8) (ha : a < 8) (hb : b < 8) (hab : k = 8 → a ≠ b) (h3 : N.1 29 3 = nI 1) (h4 : N.1 29 4 = 0) (h : rD N 0 y) (hy : rw_ok y) : am_M (d + 3) false nm_X8_turnBy [aR 29, aI (nI k), aI (nI a), aI (nI b)] N (fun r M' => r = .inl none ∧ ∃ y', pz y' = fk0 k a b (pz y) ∧ y'.2.2 < 2 ∧ M' = wD N 0 y') := by
  refine ⟨rfl, rfl, rfl, fun X hX => ?_⟩
  refine tb_beg hX h3 h4 ?_
  by_cases h5 : k < 5
  · exact bD_1 (d := d) hX h5 (by omega) (by decide) h hy (tb_end hX h3 ⟨rfl, _, pz_k b h5 y, sg_2 h5 hy.2.2, rfl⟩)
  · rcases (by omega : k = 6 ∨ k = 8) with rfl | rfl
    · exact bD_6 (d := d) hX (by omega) (by decide) h hy (tb_end hX h3 ⟨rfl, _, rfl, x2 (x2 hy.2.2 (bt_lt _ _)) (bt_lt _ _), rfl⟩)
    · exact bD_2 (d := d) (k := 7) (a := b) (b := a) hX (by omega) (by omega) (by omega) (fun e => hab rfl e.symm) (by decide) h hy (tb_end hX h3 ⟨rfl, _, pz_8 a b y, cpl_2 (by omega) hy.2.2, rfl⟩)
set_option maxRecDepth 100000 in
theorem ct_tbc {k a c : Nat} {y : RW} (hk : k ≤ 2) (ha : a < 8) (hc : c < 8) (hca : c ≠ a) (h3 : N.1 29 3 = nI 1) (h4 : N.1 29 4 = 0) (h : rD N 0 y) (hy : rw_ok y) : am_M (d + 3) false nm_X8_turnBy [aR 29, aI (nI (k + 16)), aI (nI a), aI (nI c)] N (fun r M' => r = .inl none ∧ ∃ y', pz y' = fk1 k c a (pz y) ∧ y'.2.2 < 2 ∧ M' = wD N 0 y') := by
  refine ⟨rfl, rfl, rfl, fun X hX => ?_⟩
  refine tb_beg hX h3 h4 ?_
  rcases (by omega : k = 0 ∨ k = 1 ∨ k = 2) with rfl | rfl | rfl
  · exact bD_2 (d := d) (k := 5) (a := c) (b := a) hX (by omega) (by omega) (by omega) hca (by decide) h hy (tb_end hX h3 ⟨rfl, _, pz_5 c a y, cpl_2 (by omega) hy.2.2, rfl⟩)
  · exact bD_17 (d := d) (a := c) (b := a) hX (by omega) (by omega) (by decide) h hy (tb_end hX h3 ⟨rfl, _, pz_17 hca y, (ok_nS (show a < 20 by omega) (ok_nH (show a < 20 by omega) (ok_nC (show a < 20 by omega) (show c < 20 by omega) (ok_nH (show a < 20 by omega) (ok_nX (ok_nS (show a < 20 by omega) hy)))))).2.2, rfl⟩)
  · exact bD_2 (d := d) (k := 6) (a := c) (b := a) hX (by omega) (by omega) (by omega) hca (by decide) h hy (tb_end hX h3 ⟨rfl, _, pz_6 hca y, cpl_2 (by omega) hy.2.2, rfl⟩)
theorem lw_w {W : Nat} {x : bk_X} (hW : W ≤ 8) (h : ogd W x) (h0 : x.2.2.2.1 ≠ 0) : lw x.2.2.2.1 < 8 ∧ lw x.2.2.2.1 ≠ x.2.1 := by
  have h1 := h.1.2.2.2.1
  have h8 := w256 hW
  obtain ⟨a, b, _⟩ := lw_r x.2.2.2.1 (by omega) (by omega)
  refine ⟨a, fun e => ?_⟩
  rw [e, h.2.1] at b
  exact absurd b (by decide)
set_option maxRecDepth 100000 in
theorem ct_tbO {W : Nat} {x : bk_X} {y : RW} (hW : W ≤ 8) (ho : ogd W x) (hp : pln x) (h3 : N.1 29 3 = nI 1) (h4 : N.1 29 4 = 0) (h : rD N 0 y) (hy : rw_ok y) : am_M (d + 4) false nm_X8_turnByOp [aR 29, aI (nI (bk_p x))] N (fun r M' => r = .inl none ∧ ∃ y', pz y' = fT x (pz y) ∧ y'.2.2 < 2 ∧ M' = wD N 0 y') := by
  have ow := ho.1
  have h8 := w256 hW
  have c8 := ow.2.2.2.1
  refine ⟨rfl, rfl, rfl, fun X hX => am_run hX 40 _ _ _ _ ?_⟩
  conv => whnf
  refine am_c1 (ct_controlsOf (d := d + 2)) ?_
  rw [bk_cc hW ow]
  conv => whnf
  refine am_c1 (ct_kind (d := d + 2)) ?_
  rw [bk_k hW ow]
  conv => whnf
  rcases hp with ⟨h0, hk⟩ | ⟨h0, hk, _⟩
  · have e : fT x (pz y) = fk0 x.1 x.2.1 x.2.2.1 (pz y) := by
      unfold fT
      rw [if_pos h0]
    rw [h0]
    refine ⟨fun c => absurd rfl c, fun _ => ?_⟩
    conv => whnf
    refine am_c1 (ct_wireOf (d := d + 2)) ?_
    rw [bk_wi hW ow]
    conv => whnf
    refine am_c1 (ct_secondOf (d := d + 2)) ?_
    rw [bk_s hW ow]
    conv => whnf
    refine am_cq (ct_tb0 (d := d) hk (by have := ow.2.1; omega) ow.2.2.1 (fun q => (ho.2.2 q).2.1) h3 h4 h hy) ?_
    rintro r M' ⟨rfl, q⟩
    refine ⟨none, rfl, ?_⟩
    conv => whnf
    exact ⟨trivial, rfl, by rw [e]; exact q⟩
  · have e : fT x (pz y) = fk1 x.1 (lw x.2.2.2.1) x.2.1 (pz y) := by
      unfold fT
      rw [if_neg h0]
    obtain ⟨l8, ln⟩ := lw_w hW ho h0
    refine ⟨fun _ => ?_, fun c => absurd (nI_ne0 (by omega) (by omega)) c⟩
    conv => whnf
    refine am_c1 (ct_wireOf (d := d + 2)) ?_
    rw [bk_wi hW ow]
    conv => whnf
    refine am_c1 (ct_low (d := d + 1) (by omega) (by omega)) ?_
    conv => whnf
    rw [show nI x.1 + 16 = nI (x.1 + 16) from by rw [show (16 : Int32) = nI 16 from rfl, nI_add]]
    refine am_cq (ct_tbc (d := d) hk (by have := ow.2.1; omega) l8 ln h3 h4 h hy) ?_
    rintro r M' ⟨rfl, q⟩
    refine ⟨none, rfl, ?_⟩
    conv => whnf
    exact ⟨trivial, rfl, by rw [e]; exact q⟩
end CRT
