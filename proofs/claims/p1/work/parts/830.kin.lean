/-! graphs: a point complemented: the programs -/
section KNC
variable {d : Nat} {M : mm_M} {n g p : Nat}
theorem bt_le (x k : Nat) : x / 2 ^ k % 2 < 2 := Nat.mod_lt _ (by decide)
set_option maxRecDepth 100000 in
theorem cm_l1 {P : am_Q} {X : am_X} (hX : am_K (d + 1) false nm_X7_complemented P X) (hn : n ≤ 6) (hp : p < n) (hg : g < 32768) (hK : ∀ l4 l5 l6, X 43 [some (aI (nI n)), some (aI (nI g)), some (aI (nI p)), some (aI (nI (pdi g p n))), l4, l5, l6] [] M) : ∀ (m i : Nat), i + m = n → ∀ l5 l6, X 5 [some (aI (nI n)), some (aI (nI g)), some (aI (nI p)), some (aI (nI (pdi g p i))), some (aI (nI i)), l5, l6] [] M := by
  intro m
  induction m with
  | zero =>
    intro i hi l5 l6
    have hi : i = n := by omega
    subst hi
    refine am_run hX 3 _ _ _ _ ?_
    conv => whnf
    exact ⟨fun _ => hK _ _ _, fun c => absurd (nI_le (Nat.le_refl _) (by omega)) c⟩
  | succ m ih =>
    intro i hi l5 l6
    refine am_run hX 3 _ _ _ _ ?_
    conv => whnf
    refine ⟨fun c => absurd c (nI_ge (by omega) (by omega)), fun _ => ?_⟩
    refine am_run hX 4 _ _ _ _ ?_
    conv => whnf
    refine ⟨fun hc => ?_, fun hc => ?_⟩
    · have e : i = p := (nI_eq (by omega) (by omega)).mp hc
      refine am_run hX 5 _ _ _ _ ?_
      conv => whnf
      rw [nI_1, show (0 : Int32) = nI 0 from rfl, nI_or]
      have := ih (i + 1) (by omega) l5 l6
      simp only [pdi, if_pos e] at this
      exact this
    · have e : ¬ i = p := fun q => hc (by rw [q])
      refine am_run hX 14 _ _ _ _ ?_
      conv => whnf
      refine am_c1 (ct_pr1 (d := d) (a := i) (b := p) (by omega) (by omega)) ?_
      conv => whnf
      have hb := pr_b i (by omega) p (by omega)
      rw [nI_1, nI_sh (by omega) _ (by omega), nI_m1, nI_shl (by omega) (by
        have h1 := bt_le g (pr i p)
        have h2 : 2 ^ i ≤ 2 ^ 6 := Nat.pow_le_pow_right (by decide) (by omega)
        have h3 : g / 2 ^ pr i p % 2 * 2 ^ i ≤ 1 * 2 ^ 6 := Nat.mul_le_mul (by omega) h2
        omega), nI_or]
      have := ih (i + 1) (by omega) l5 l6
      simp only [pdi, if_neg e] at this
      exact this
set_option maxRecDepth 100000 in
theorem cm_l3 {P : am_Q} {X : am_X} {pd b : Nat} (hX : am_K (d + 1) false nm_X7_complemented P X) (hpd : pd < 64) (hb : b < 6) (y : Nat) (hK : ∀ l6, X 95 [some (aI (nI n)), some (aI (nI g)), some (aI (nI p)), some (aI (nI pd)), some (aI (nI y)), some (aI (nI b)), l6] [] M) : ∀ (m a x : Nat), a + m = b → cin pd b m a x = y → X 58 [some (aI (nI n)), some (aI (nI g)), some (aI (nI p)), some (aI (nI pd)), some (aI (nI x)), some (aI (nI b)), some (aI (nI a))] [] M := by
  intro m
  induction m with
  | zero =>
    intro a x ha hy
    have ha : a = b := by omega
    subst ha
    have hy : x = y := hy
    subst hy
    refine am_run hX 3 _ _ _ _ ?_
    conv => whnf
    exact ⟨fun _ => hK _, fun c => absurd (nI_le (Nat.le_refl _) (by omega)) c⟩
  | succ m ih =>
    intro a x ha hy
    have hpb := pr_b a (by omega) b hb
    refine am_run hX 3 _ _ _ _ ?_
    conv => whnf
    refine ⟨fun c => absurd c (nI_ge (by omega) (by omega)), fun _ => ?_⟩
    refine am_run hX 18 _ _ _ _ ?_
    conv => whnf
    refine am_c1 (ct_pr1 (d := d) (a := a) (b := b) (by omega) hb) ?_
    conv => whnf
    rw [nI_1, nI_sh (by omega) a (by omega), nI_sh (by omega) b (by omega), nI_and, nI_m1, nI_shl (by omega) (by
      have h1 : (pd / 2 ^ a &&& pd / 2 ^ b) % 2 < 2 := Nat.mod_lt _ (by decide)
      have h2 : 2 ^ pr a b ≤ 2 ^ 21 := Nat.pow_le_pow_right (by decide) (by omega)
      have h3 : (pd / 2 ^ a &&& pd / 2 ^ b) % 2 * 2 ^ pr a b ≤ 1 * 2 ^ 21 := Nat.mul_le_mul (by omega) h2
      omega), nI_xor]
    exact ih (a + 1) (x ^^^ tt pd a b) (by omega) hy
set_option maxRecDepth 100000 in
theorem cm_l2 {P : am_Q} {X : am_X} {pd : Nat} (hX : am_K (d + 1) false nm_X7_complemented P X) (hn : n ≤ 6) (hpd : pd < 64) (y : Nat) (hP : P (.inl (some (aI (nI y)))) M) : ∀ (m b x : Nat), b + m = n → cou pd m b x = y → ∀ l6, X 49 [some (aI (nI n)), some (aI (nI g)), some (aI (nI p)), some (aI (nI pd)), some (aI (nI x)), some (aI (nI b)), l6] [] M := by
  intro m
  induction m with
  | zero =>
    intro b x hb hy l6
    have hb : b = n := by omega
    subst hb
    have hy : x = y := hy
    subst hy
    refine am_run hX 5 _ _ _ _ ?_
    conv => whnf
    refine ⟨fun _ => ?_, fun c => absurd (nI_le (Nat.le_refl _) (by omega)) c⟩
    conv => whnf
    exact ⟨trivial, hP⟩
  | succ m ih =>
    intro b x hb hy l6
    refine am_run hX 3 _ _ _ _ ?_
    conv => whnf
    refine ⟨fun c => absurd c (nI_ge (by omega) (by omega)), fun _ => ?_⟩
    refine am_run hX 2 _ _ _ _ ?_
    conv => whnf
    refine cm_l3 hX hpd (by omega) (cin pd b b 0 x) (fun l6 => ?_) b 0 x (by omega) rfl
    refine am_run hX 2 _ _ _ _ ?_
    conv => whnf
    rw [nI_1]
    exact ih (b + 1) (cin pd b b 0 x) (by omega) hy _
set_option maxRecDepth 100000 in
theorem ct_cp1 (hn1 : 1 ≤ n) (hn : n ≤ 6) (hp : p < n) (hg : g < 32768) : am_M (d + 2) false nm_X7_complemented [aI (nI n), aI (nI g), aI (nI p)] M (am_q1 (aI (nI (cp n p g))) M) := by
  refine ⟨rfl, rfl, rfl, fun X hX => am_run hX 4 _ _ _ _ ?_⟩
  conv => whnf
  refine cm_l1 hX hn hp hg (fun l4 l5 l6 => ?_) n 0 (by omega) none none
  refine am_run hX 4 _ _ _ _ ?_
  conv => whnf
  exact cm_l2 hX hn (pd64 hn g p) (cp n p g) ⟨rfl, rfl⟩ (n - 1) 1 g (by omega) rfl _
/-- whether a pair is told, by the reference -/
theorem ip_e {g a p : Nat} (hg : g < 32768) (ha : a < 6) (hp : p < 6) (h : ¬ a = p) : (nI g >>> (nI (pr a p) &&& 31) &&& 1 = 1) ↔ ip g a p = true := by
  have hb := pr_b a ha p hp
  rw [nI_sh (by omega) _ (by omega), nI_m1, show (1 : Int32) = nI 1 from rfl, nI_eq (by have := bt_le g (pr a p); omega) (by decide)]
  simp [ip, h]
set_option maxRecDepth 100000 in
theorem ct_ip {a : Nat} (hg : g < 32768) (ha : a < 6) (hp : p < 6) : am_M (d + 2) false nm_X12_isPaired [aI (nI g), aI (nI a), aI (nI p)] M (am_q1 (aI (if ip g a p = true then 1 else 0)) M) := by
  refine ⟨rfl, rfl, rfl, fun X hX => am_run hX 30 _ _ _ _ ?_⟩
  conv => whnf
  refine ⟨fun hc => ?_, fun hc => ?_⟩
  · have e : a = p := (nI_eq (by omega) (by omega)).mp hc
    conv => whnf
    exact ⟨rfl, by rw [if_neg (by simp [ip, e])], rfl⟩
  · have e : ¬ a = p := fun q => hc (by rw [q])
    conv => whnf
    refine am_c1 (ct_pr2 (d := d) (a := a) (b := p) ha hp) ?_
    conv => whnf
    refine ⟨fun h2 => ?_, fun h2 => ?_⟩
    · conv => whnf
      exact ⟨rfl, by rw [if_neg (fun q => h2 ((ip_e hg ha hp e).mpr q))], rfl⟩
    · have h2 : nI g >>> (nI (pr a p) &&& 31) &&& 1 = 1 := Decidable.byContradiction h2
      conv => whnf
      exact ⟨rfl, by rw [if_pos ((ip_e hg ha hp e).mp h2)], rfl⟩
set_option maxRecDepth 100000 in
theorem rm_l2 {P : am_Q} {X : am_X} {a : Nat} (hX : am_K (d + 2) false nm_X12_complementedAt P X) (hn : n ≤ 6) (hp : p < n) (hg : g < 32768) (ha : a < n) (y : Nat) (hK : ∀ l5, X 61 [some (aI (nI n)), some (aI (nI g)), some (aI (nI p)), some (aI (nI y)), some (aI (nI a)), l5] [] M) : ∀ (m b x : Nat), b + m = n → rin (pdi g p n) a m b x = y → X 17 [some (aI (nI n)), some (aI (nI g)), some (aI (nI p)), some (aI (nI x)), some (aI (nI a)), some (aI (nI b))] [] M := by
  have hT : ∀ i, i < n → ((pdi g p n).testBit i = true ↔ ip g i p = true) := fun i hi => by
    rw [pdi_tb]
    simp [hi]
  intro m
  induction m with
  | zero =>
    intro b x hb hy
    have hb : b = n := by omega
    subst hb
    have hy : x = y := hy
    subst hy
    refine am_run hX 3 _ _ _ _ ?_
    conv => whnf
    exact ⟨fun _ => hK _, fun c => absurd (nI_le (Nat.le_refl _) (by omega)) c⟩
  | succ m ih =>
    intro b x hb hy
    have hpb := pr_b a (by omega) b (by omega)
    have hskip : ¬ (ip g a p = true ∧ ip g b p = true) → X 55 [some (aI (nI n)), some (aI (nI g)), some (aI (nI p)), some (aI (nI x)), some (aI (nI a)), some (aI (nI b))] [] M := fun hs => by
      refine am_run hX 2 _ _ _ _ ?_
      conv => whnf
      rw [nI_1]
      refine ih (b + 1) x (by omega) ?_
      rw [← hy]
      simp only [rin]
      rw [if_neg (by rw [hT a ha, hT b (by omega)]; exact hs)]
    refine am_run hX 3 _ _ _ _ ?_
    conv => whnf
    refine ⟨fun c => absurd c (nI_ge (by omega) (by omega)), fun _ => ?_⟩
    refine am_run hX 5 _ _ _ _ ?_
    conv => whnf
    refine am_c1 (ct_ip (d := d) (a := a) hg (by omega) (by omega)) ?_
    conv => whnf
    by_cases h1 : ip g a p = true
    · rw [if_pos h1]
      refine ⟨fun c => absurd c (by decide), fun _ => ?_⟩
      refine am_run hX 5 _ _ _ _ ?_
      conv => whnf
      refine am_c1 (ct_ip (d := d) (a := b) hg (by omega) (by omega)) ?_
      conv => whnf
      by_cases h2 : ip g b p = true
      · rw [if_pos h2]
        refine ⟨fun c => absurd c (by decide), fun _ => ?_⟩
        refine am_run hX 10 _ _ _ _ ?_
        conv => whnf
        refine am_c1 (ct_pr2 (d := d + 1) (a := a) (b := b) (by omega) (by omega)) ?_
        conv => whnf
        rw [nI_1, sh2 _ (by omega), nI_xor]
        refine ih (b + 1) _ (by omega) ?_
        rw [← hy]
        simp only [rin]
        rw [if_pos (by rw [hT a ha, hT b (by omega)]; exact ⟨h1, h2⟩)]
      · rw [if_neg h2]
        exact ⟨fun _ => hskip (fun q => h2 q.2), fun c => absurd rfl c⟩
    · rw [if_neg h1]
      exact ⟨fun _ => hskip (fun q => h1 q.1), fun c => absurd rfl c⟩
set_option maxRecDepth 100000 in
theorem rm_l1 {P : am_Q} {X : am_X} (hX : am_K (d + 2) false nm_X12_complementedAt P X) (hn : n ≤ 6) (hp : p < n) (hg : g < 32768) (y : Nat) (hP : P (.inl (some (aI (nI y)))) M) : ∀ (m a x : Nat), a + m = n → rou (pdi g p n) n m a x = y → ∀ l5, X 5 [some (aI (nI n)), some (aI (nI g)), some (aI (nI p)), some (aI (nI x)), some (aI (nI a)), l5] [] M := by
  intro m
  induction m with
  | zero =>
    intro a x ha hy l5
    have ha : a = n := by omega
    subst ha
    have hy : x = y := hy
    subst hy
    refine am_run hX 5 _ _ _ _ ?_
    conv => whnf
    refine ⟨fun _ => ?_, fun c => absurd (nI_le (Nat.le_refl _) (by omega)) c⟩
    conv => whnf
    exact ⟨trivial, hP⟩
  | succ m ih =>
    intro a x ha hy l5
    refine am_run hX 3 _ _ _ _ ?_
    conv => whnf
    refine ⟨fun c => absurd c (nI_ge (by omega) (by omega)), fun _ => ?_⟩
    refine am_run hX 4 _ _ _ _ ?_
    conv => whnf
    rw [nI_1]
    refine rm_l2 hX hn hp hg (by omega) (rin (pdi g p n) a (n - 1 - a) (a + 1) x) (fun l5 => ?_) (n - 1 - a) (a + 1) x (by omega) rfl
    refine am_run hX 2 _ _ _ _ ?_
    conv => whnf
    rw [nI_1]
    exact ih (a + 1) _ (by omega) hy _
set_option maxRecDepth 100000 in
theorem ct_cp2 (hn : n ≤ 6) (hp : p < n) (hg : g < 32768) : am_M (d + 3) false nm_X12_complementedAt [aI (nI n), aI (nI g), aI (nI p)] M (am_q1 (aI (nI (cp n p g))) M) := by
  refine ⟨rfl, rfl, rfl, fun X hX => am_run hX 4 _ _ _ _ ?_⟩
  conv => whnf
  refine rm_l1 hX hn hp hg (cp n p g) ⟨rfl, rfl⟩ n 0 g (by omega) (cp_r hn p g).symm _
end KNC
