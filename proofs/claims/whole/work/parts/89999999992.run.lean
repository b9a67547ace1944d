/-! THE PAIR run -/
def arun (W : Nat) (tape : Int64) (op : Nat → bk_X) (dn : Nat) (σ : ru_A) : Nat → ru_A
  | 0 => σ
  | n + 1 => ast W tape (op (dn + n)) (arun W tape op dn σ n)
/-- how many h are among the first OPS -/
def hcn (op : Nat → bk_X) : Nat → Nat
  | 0 => 0
  | n + 1 => hcn op n + (if (op n).1 = 3 then 1 else 0)
theorem hcn_m (op : Nat → bk_X) (n : Nat) : ∀ m, hcn op n ≤ hcn op (n + m)
  | 0 => Nat.le_refl _
  | m + 1 => by
    have := hcn_m op n m
    show hcn op n ≤ hcn op (n + m) + _
    omega
/-- all that a RUN is, on both sides: its circuit, its OPS, where it stands -/
def run_iv (M : mm_M) (n c W S : Nat) (op : Nat → bk_X) (k : Nat) (xs : Nat → R4) (dn tk b : Nat) : Prop :=
  (bk_iv M n ∧ c < n ∧ bk_c M c W S ∧ ∀ j, j < S → ogd W (op j) ∧ bk_o M (300 * c + j) (op j)) ∧ (ru_s M c W k ∧ ru_n M W k xs) ∧ (M.1 17 7 = nI dn ∧ M.1 108 67 = nI dn ∧ M.1 17 8 = nI tk ∧ M.1 108 68 = nI tk ∧ M.1 17 9 = nI b ∧ M.1 108 70 = nI b ∧ M.2 17 11 = M.2 108 69) ∧ dn ≤ S ∧ tk ≤ dn ∧ b < 2 ^ 8 ∧ k ≤ hcn op dn ∧ hcn op S ≤ 60
def run_rv (M : mm_M) (n c W S : Nat) (op : Nat → bk_X) (k : Nat) (xs : Nat → R4) (dn tk b : Nat) : Prop :=
  (bk_iv M n ∧ c < n ∧ bk_c M c W S ∧ ∀ j, j < S → ogd W (op j) ∧ bk_o M (300 * c + j) (op j)) ∧ (W ≤ 8 ∧ k ≤ 60 ∧ M.1 108 65 = 1 ∧ M.1 108 66 = nI c ∧ M.1 108 71 = nI W) ∧ ((∀ j, j < 2 ^ W → rf_at M 150 j (red k (xs j))) ∧ sI (fun i => nrm (xs i)) (2 ^ W) ≤ 2 ^ k) ∧ (M.1 108 67 = nI dn ∧ M.1 108 68 = nI tk ∧ M.1 108 70 = nI b) ∧ dn ≤ S ∧ tk ≤ dn ∧ b < 2 ^ 8 ∧ k ≤ hcn op dn ∧ hcn op S ≤ 60
theorem run_r {M : mm_M} {n c W S : Nat} {op : Nat → bk_X} {k : Nat} {xs : Nat → R4} {dn tk b : Nat} (h : run_iv M n c W S op k xs dn tk b) : run_rv M n c W S op k xs dn tk b := by
  obtain ⟨h1, ⟨hrs, hrn⟩, ⟨_, e2, _, e4, _, e6, _⟩, h4⟩ := h
  exact ⟨h1, ⟨hrs.2.2.1, hrs.2.2.2.1, hrs.2.2.2.2.2.1, hrs.2.2.2.2.2.2.1, hrs.2.2.2.2.2.2.2.2.1⟩, ⟨fun j hj => (hrn.1 j hj).2, hrn.2⟩, ⟨e2, e4, e6⟩, h4⟩
theorem ar_ok {W S : Nat} {tape : Int64} {op : Nat → bk_X} {dn : Nat} {σ : ru_A} (ho : ∀ j, j < S → ogd W (op j)) (h : aok W σ) (hk : σ.1 ≤ hcn op dn) (ht : σ.2.2.1 ≤ dn) : ∀ n, dn + n ≤ S → aok W (arun W tape op dn σ n) ∧ (arun W tape op dn σ n).1 ≤ hcn op (dn + n) ∧ (arun W tape op dn σ n).2.2.1 ≤ dn + n
  | 0, _ => ⟨h, hk, ht⟩
  | n + 1, hn => by
    obtain ⟨h1, h2, h3⟩ := ar_ok (tape := tape) ho h hk ht n (by omega)
    refine ⟨aok_s (ho _ (by omega)) h1, ?_, ?_⟩
    · have := ast_k W tape (op (dn + n)) (arun W tape op dn σ n)
      show _ ≤ hcn op (dn + n) + (if (op (dn + n)).1 = 3 then 1 else 0)
      exact Nat.le_trans this (by omega)
    · have := ast_t W tape (op (dn + n)) (arun W tape op dn σ n)
      exact Nat.le_trans this (by omega)
section RUN
variable {d : Nat} {M : mm_M}
set_option maxRecDepth 100000 in
theorem rc_l {P : am_Q} {X : am_X} {t : Bool} {n c W S k dn tk b T : Nat} {op : Nat → bk_X} {xs : Nat → R4} {tape : Int64} {p : Int32} (hX : am_K (d + 6) t nm_X11_run P X) (h : run_iv M n c W S op k xs dn tk b) (hT : M.2 17 11 = tape) (hTS : dn + T ≤ S) (hP : ∀ gv, (0 < T → gv = -1) → P (.inl (some (aI (nI T)))) (cF M (c17 (M.1 17) (dn + T) (arun W tape op dn (k, xs, tk, b) T).2.2.1 (arun W tape op dn (k, xs, tk, b) T).2.2.2 gv) (upd (M.1 18) 3 (nI (arun W tape op dn (k, xs, tk, b) T).1)) (cq (M.2 20) (2 ^ W) (arun W tape op dn (k, xs, tk, b) T).2.1))) : ∀ (m i : Nat), i + m = T → ∀ gv, (0 < i → gv = -1) → X 98 [some (aR 0), some (aI p), some (aI (nI T)), some (aI (nI i))] [] (cF M (c17 (M.1 17) (dn + i) (arun W tape op dn (k, xs, tk, b) i).2.2.1 (arun W tape op dn (k, xs, tk, b) i).2.2.2 gv) (upd (M.1 18) 3 (nI (arun W tape op dn (k, xs, tk, b) i).1)) (cq (M.2 20) (2 ^ W) (arun W tape op dn (k, xs, tk, b) i).2.1)) := by
  obtain ⟨⟨hbk, hcc, hbc, hops⟩, ⟨hrs, hrn⟩, _, hdn, htk, hb, hkk, h60⟩ := h
  have hS300 := hbc.2.2.1
  have w8 := hrs.2.2.1
  have hao : aok W (k, xs, tk, b) := ⟨hrn.2, hb⟩
  intro m
  induction m with
  | zero =>
    intro i hi gv hg
    have hi : i = T := by omega
    subst hi
    refine am_run hX 10 _ _ _ _ ?_
    conv => whnf
    refine ⟨fun _ => ?_, fun c => absurd (nI_le (by omega) (by omega)) c⟩
    conv => whnf
    exact ⟨trivial, hP _ hg⟩
  | succ m ih =>
    intro i hi gv hg
    have ih := ih (i + 1) (by omega)
    obtain ⟨a1, a2, a3⟩ := ar_ok (tape := tape) (fun j hj => (hops j hj).1) hao hkk htk i (by omega)
    have hm := hcn_m op (dn + i) (S - (dn + i))
    rw [show dn + i + (S - (dn + i)) = S by omega] at hm
    have hbd := aok_bd a1 (by omega)
    obtain ⟨og, bo⟩ := hops (dn + i) (by omega)
    refine am_run hX 3 _ _ _ _ ?_
    conv => whnf
    refine ⟨fun c => absurd c (nI_ge (by omega) (by omega)), fun _ => ?_⟩
    refine am_run hX 14 _ _ _ _ ?_
    conv => whnf
    rw [show (cF M (c17 (M.1 17) (dn + i) (arun W tape op dn (k, xs, tk, b) i).2.2.1 (arun W tape op dn (k, xs, tk, b) i).2.2.2 gv) (upd (M.1 18) 3 (nI (arun W tape op dn (k, xs, tk, b) i).1)) (cq (M.2 20) (2 ^ W) (arun W tape op dn (k, xs, tk, b) i).2.1)).1 17 7 = nI (dn + i) from rfl, show (cF M (c17 (M.1 17) (dn + i) (arun W tape op dn (k, xs, tk, b) i).2.2.1 (arun W tape op dn (k, xs, tk, b) i).2.2.2 gv) (upd (M.1 18) 3 (nI (arun W tape op dn (k, xs, tk, b) i).1)) (cq (M.2 20) (2 ^ W) (arun W tape op dn (k, xs, tk, b) i).2.1)).1 17 5 = nI c from hrs.2.2.2.2.1]
    refine am_c1 (bk_at (d := d + 3) (M := (cF M (c17 (M.1 17) (dn + i) (arun W tape op dn (k, xs, tk, b) i).2.2.1 (arun W tape op dn (k, xs, tk, b) i).2.2.2 gv) (upd (M.1 18) 3 (nI (arun W tape op dn (k, xs, tk, b) i).1)) (cq (M.2 20) (2 ^ W) (arun W tape op dn (k, xs, tk, b) i).2.1))) (n := n) (c := c) (W := W) (S := S) hbk hcc hbc (by omega)) ?_
    rw [show (cF M (c17 (M.1 17) (dn + i) (arun W tape op dn (k, xs, tk, b) i).2.2.1 (arun W tape op dn (k, xs, tk, b) i).2.2.2 gv) (upd (M.1 18) 3 (nI (arun W tape op dn (k, xs, tk, b) i).1)) (cq (M.2 20) (2 ^ W) (arun W tape op dn (k, xs, tk, b) i).2.1)).1 10 (300 * c + (dn + i)) = nI (bk_p (op (dn + i))) from bo.1]
    conv => whnf
    refine am_c0 (ct_step (d := d + 1) (M := M) (g := M.2 20) (tape := tape) w8 og (by omega) a1.2 hT hrs.2.2.2.2.2.2.2.2.2.1 hbd) ?_
    conv => whnf
    rw [nI_1]
    exact ih _ (fun _ => rfl)
theorem cS_0 {n c W S k dn tk b : Nat} {op : Nat → bk_X} {xs : Nat → R4} {tape : Int64} (h : run_iv M n c W S op k xs dn tk b) : (cF M (c17 (M.1 17) (dn + 0) (arun W tape op dn (k, xs, tk, b) 0).2.2.1 (arun W tape op dn (k, xs, tk, b) 0).2.2.2 (M.1 17 10)) (upd (M.1 18) 3 (nI (arun W tape op dn (k, xs, tk, b) 0).1)) (cq (M.2 20) (2 ^ W) (arun W tape op dn (k, xs, tk, b) 0).2.1)) = M := by
  obtain ⟨_, ⟨hrs, hrn⟩, ⟨e1, _, e3, _, e5, _, _⟩, _⟩ := h
  have h17 : c17 (M.1 17) dn tk b (M.1 17 10) = M.1 17 := by
    funext j
    unfold c17
    by_cases h1 : j = 7
    · rw [if_pos h1, h1, e1]
    · rw [if_neg h1]
      by_cases h2 : j = 8
      · rw [if_pos h2, h2, e3]
      · rw [if_neg h2]
        by_cases h3 : j = 9
        · rw [if_pos h3, h3, e5]
        · rw [if_neg h3]
          by_cases h4 : j = 10
          · rw [if_pos h4, h4]
          · rw [if_neg h4]
  have h18 : upd (M.1 18) 3 (nI k) = M.1 18 := upd_eq hrs.2.2.2.2.2.2.2.2.2.2.1
  have h20 : cq (M.2 20) (2 ^ W) xs = M.2 20 := (cq_of (fun j hj => (hrn.1 j hj).1)).symm
  show cF M (c17 (M.1 17) dn tk b (M.1 17 10)) (upd (M.1 18) 3 (nI k)) (cq (M.2 20) (2 ^ W) xs) = M
  rw [h17, h18, h20]
  unfold cF
  rw [mm_iz, mm_iz, mm_lz]
theorem rS_0 {n c W S k dn tk b : Nat} {op : Nat → bk_X} {xs : Nat → R4} {tape : Int64} (h : run_rv M n c W S op k xs dn tk b) : (fun q o f => (rF M (r108 (M.1 108) (dn + 0) (arun W tape op dn (k, xs, tk, b) 0).2.2.1 (arun W tape op dn (k, xs, tk, b) 0).2.2.2 (M.1 108 74)) q o f (c5 (M.2 150) (2 ^ W) (fun j => red (arun W tape op dn (k, xs, tk, b) 0).1 ((arun W tape op dn (k, xs, tk, b) 0).2.1 j))))) (M.2 152) (M.2 119) (M.2 118) = M := by
  obtain ⟨_, hrs, hrn, ⟨e2, e4, e6⟩, _⟩ := h
  have h108 : r108 (M.1 108) dn tk b (M.1 108 74) = M.1 108 := by
    funext j
    unfold r108
    by_cases h1 : j = 67
    · rw [if_pos h1, h1, e2]
    · rw [if_neg h1]
      by_cases h2 : j = 68
      · rw [if_pos h2, h2, e4]
      · rw [if_neg h2]
        by_cases h3 : j = 70
        · rw [if_pos h3, h3, e6]
        · rw [if_neg h3]
          by_cases h4 : j = 74
          · rw [if_pos h4, h4]
          · rw [if_neg h4]
  have k60 := hrs.2.1
  have h150 : c5 (M.2 150) (2 ^ W) (fun j => red k (xs j)) = M.2 150 := (c5_of (fun j _ => by have := (vr_red k (xs j)).1; omega) (fun j hj => hrn.1 j hj)).symm
  show rF M (r108 (M.1 108) dn tk b (M.1 108 74)) (M.2 152) (M.2 119) (M.2 118) (c5 (M.2 150) (2 ^ W) (fun j => red k (xs j))) = M
  rw [h108, h150]
  unfold rF
  rw [mm_iz, v4_z]
set_option maxRecDepth 100000 in
theorem ru_x1 {n c W S k dn tk b p T : Nat} {op : Nat → bk_X} {xs : Nat → R4} {tape : Int64} (h : run_iv M n c W S op k xs dn tk b) (hT : M.2 17 11 = tape) (hp : 1 ≤ p) (hp4 : p ≤ 400) (hdS : dn < S) (eT : T = min p (S - dn)) (t : Bool) : am_M (d + 7) t nm_X11_run [aR 0, aI (nI p)] M (fun r M' => r = .inl (some (aI (nI T))) ∧ ∃ gv, (0 < T → gv = -1) ∧ M' = (cF M (c17 (M.1 17) (dn + T) (arun W tape op dn (k, xs, tk, b) T).2.2.1 (arun W tape op dn (k, xs, tk, b) T).2.2.2 gv) (upd (M.1 18) 3 (nI (arun W tape op dn (k, xs, tk, b) T).1)) (cq (M.2 20) (2 ^ W) (arun W tape op dn (k, xs, tk, b) T).2.1))) := by
  have h0 := h
  obtain ⟨⟨hbk, hcc, hbc, hops⟩, ⟨hrs, hrn⟩, ⟨e1, _⟩, hdn, htk, hb, hkk, h60⟩ := h
  have hS300 := hbc.2.2.1
  have hn20 := hbk.1
  have e5 : M.1 17 5 = nI c := hrs.2.2.2.2.1
  have e11 : M.1 11 c = nI S := hbc.2.2.2.2.2.1
  refine ⟨rfl, rfl, rfl, fun X hX => am_run hX 3 _ _ _ _ ?_⟩
  conv => whnf
  refine ⟨fun c => absurd c (nI_nlt (a := p) (b := 1) (by omega) (by omega)), fun _ => ?_⟩
  refine am_run hX 3 _ _ _ _ ?_
  conv => whnf
  refine ⟨fun _ => ?_, fun c => absurd (nI_le (a := p) (b := 400) (by omega) (by decide)) c⟩
  refine am_run hX 5 _ _ _ _ ?_
  conv => whnf
  rw [e5]
  refine ⟨fun c => absurd c (nI_nm (by omega)), fun _ => ?_⟩
  refine am_run hX 11 _ _ _ _ ?_
  conv => whnf
  rw [e5]
  refine ⟨vp_in_nI (by show c < 20; omega) (by decide), ?_⟩
  conv => whnf
  rw [nI_clamp (n := c) (by omega), e11, e1]
  refine ⟨fun _ => ?_, fun c => absurd (nI_lt hdS (by omega)) c⟩
  refine am_run hX 16 _ _ _ _ ?_
  conv => whnf
  rw [e5]
  refine ⟨vp_in_nI (by show c < 20; omega) (by decide), ?_⟩
  conv => whnf
  rw [nI_clamp (n := c) (by omega), e11, e1, nI_sub (by omega), nI_min (by omega) (by omega), ← eT]
  have key := rc_l (d := d) (t := t) (M := M) (T := T) (tape := tape) (p := nI p) hX h0 hT (by omega) (fun gv hg => ⟨rfl, gv, hg, rfl⟩) T 0 (by omega) (M.1 17 10) (fun h => absurd h (Nat.lt_irrefl 0))
  rw [cS_0 h0] at key
  exact key
set_option maxRecDepth 100000 in
theorem ru_x0 {p : Int32} (h : p < 1 ∨ ¬ p ≤ 400) : am_M 999 true nm_X11_run [aR 0, aI p] M (fun r M' => r = .inr "java/lang/IllegalArgumentException" ∧ M' = M) := by
  refine ⟨rfl, rfl, rfl, fun X hX => am_run hX 20 _ _ _ _ ?_⟩
  conv => whnf
  refine ⟨fun c => ?_, fun c => ?_⟩
  · conv => whnf
    exact ⟨⟨by decide, rfl⟩, rfl, rfl⟩
  · conv => whnf
    refine ⟨fun c2 => ?_, fun c2 => ?_⟩
    · rcases h with h | h
      · exact absurd h c
      · exact absurd c2 h
    · conv => whnf
      exact ⟨⟨by decide, rfl⟩, rfl, rfl⟩
/-- nothing to be run: no RUN, or at its end -/
def ru_no (M : mm_M) : Prop := (M.1 17 5 = -1 ∧ M.1 108 65 = 0) ∨ ∃ n c W S op k xs dn tk b, run_iv M n c W S op k xs dn tk b ∧ dn = S
set_option maxRecDepth 100000 in
theorem ru_x2 {p : Int32} (hp : ¬ p < 1) (hp4 : p ≤ 400) (h : ru_no M) : am_M 999 true nm_X11_run [aR 0, aI p] M (fun r M' => r = .inr "java/lang/IllegalStateException" ∧ M' = M) := by
  refine ⟨rfl, rfl, rfl, fun X hX => am_run hX 60 _ _ _ _ ?_⟩
  conv => whnf
  refine ⟨fun c => absurd c hp, fun _ => ?_⟩
  conv => whnf
  refine ⟨fun _ => ?_, fun c => absurd hp4 c⟩
  conv => whnf
  rcases h with h | ⟨n, c, W, S, op, k, xs, dn, tk, b, h, hd⟩
  · rw [h.1]
    refine ⟨fun _ => ?_, fun c => absurd rfl c⟩
    conv => whnf
    exact ⟨⟨by decide, rfl⟩, rfl, rfl⟩
  · obtain ⟨⟨hbk, hcc, hbc, hops⟩, ⟨hrs, hrn⟩, ⟨e1, _⟩, hdn, htk, hb, hkk, h60⟩ := h
    have hS300 := hbc.2.2.1
    have hn20 := hbk.1
    have e5 : M.1 17 5 = nI c := hrs.2.2.2.2.1
    have e11 : M.1 11 c = nI S := hbc.2.2.2.2.2.1
    rw [e5]
    refine ⟨fun c => absurd c (nI_nm (by omega)), fun _ => ?_⟩
    conv => whnf
    rw [e5]
    refine ⟨vp_in_nI (by show c < 20; omega) (by decide), ?_⟩
    conv => whnf
    rw [nI_clamp (n := c) (by omega), e11, e1]
    refine ⟨fun c => absurd c (nI_nlt (by omega) (by omega)), fun _ => ?_⟩
    conv => whnf
    exact ⟨⟨by decide, rfl⟩, rfl, rfl⟩
set_option maxRecDepth 100000 in
theorem ct_raise (v : Int32) : am_M (d + 1) false nm_X12_raise [aR 108, aI v] M (am_q1 (aI 0) (mm_i M 108 (upd (M.1 108) 0 v))) := by
  refine ⟨rfl, rfl, rfl, fun X hX => am_run hX 10 _ _ _ _ ?_⟩
  conv => whnf
  exact ⟨trivial, rfl, rfl⟩
set_option maxRecDepth 100000 in
theorem ru_m0 {p : Int32} (h : p < 1 ∨ ¬ p ≤ 400) : am_M (d + 2) false nm_X12_run [aR 108, aI p] M (am_q1 (aI 0) (th1 M)) := by
  refine ⟨rfl, rfl, rfl, fun X hX => am_run hX 20 _ _ _ _ ?_⟩
  conv => whnf
  refine ⟨fun c => ?_, fun c => ?_⟩
  · conv => whnf
    refine am_c1 (ct_raise (d := d) 1) ?_
    conv => whnf
    exact ⟨trivial, rfl, rfl⟩
  · conv => whnf
    refine ⟨fun c2 => ?_, fun c2 => ?_⟩
    · rcases h with h | h
      · exact absurd h c
      · exact absurd c2 h
    · conv => whnf
      refine am_c1 (ct_raise (d := d) 1) ?_
      conv => whnf
      exact ⟨trivial, rfl, rfl⟩
def th2 (M : mm_M) : mm_M := mm_i M 108 (upd (M.1 108) 0 2)
set_option maxRecDepth 100000 in
theorem ru_m2 {p : Int32} (hp : ¬ p < 1) (hp4 : p ≤ 400) (h : ru_no M) : am_M (d + 2) false nm_X12_run [aR 108, aI p] M (am_q1 (aI 0) (th2 M)) := by
  refine ⟨rfl, rfl, rfl, fun X hX => am_run hX 60 _ _ _ _ ?_⟩
  conv => whnf
  refine ⟨fun c => absurd c hp, fun _ => ?_⟩
  conv => whnf
  refine ⟨fun _ => ?_, fun c => absurd hp4 c⟩
  conv => whnf
  rcases h with h | ⟨n, c, W, S, op, k, xs, dn, tk, b, h, hd⟩
  · rw [h.2]
    refine ⟨fun _ => ?_, fun c => absurd rfl c⟩
    conv => whnf
    refine am_c1 (ct_raise (d := d) 2) ?_
    conv => whnf
    exact ⟨trivial, rfl, rfl⟩
  · obtain ⟨⟨hbk, hcc, hbc, hops⟩, ⟨hrs, hrn⟩, ⟨_, e2, _⟩, hdn, htk, hb, hkk, h60⟩ := h
    have hS300 := hbc.2.2.1
    have hn20 := hbk.1
    rw [hrs.2.2.2.2.2.1]
    refine ⟨fun c => absurd c (by decide), fun _ => ?_⟩
    conv => whnf
    rw [hrs.2.2.2.2.2.2.1]
    refine ⟨vp_in_nI (by show c < 21; omega) (by decide), ?_⟩
    conv => whnf
    rw [nI_clamp (n := c) (by omega), hbc.2.2.2.2.2.2.1, e2, hd]
    refine ⟨fun c => absurd rfl c, fun _ => ?_⟩
    conv => whnf
    refine am_c1 (ct_raise (d := d) 2) ?_
    conv => whnf
    exact ⟨trivial, rfl, rfl⟩
set_option maxRecDepth 100000 in
theorem rm_l {P : am_Q} {X : am_X} {n c W S k dn tk b p T : Nat} {op : Nat → bk_X} {xs : Nat → R4} {tape : Int64} (hX : am_K (d + 6) false nm_X12_run P X) (h : run_rv M n c W S op k xs dn tk b) (hT : M.2 108 69 = tape) (hp : p ≤ 400) (eT : T = min p (S - dn)) (hP : ∀ q o f gk, (gk = 0 ∨ gk = M.1 108 74 ∧ (arun W tape op dn (k, xs, tk, b) T).1 = k ∧ (arun W tape op dn (k, xs, tk, b) T).2.1 = xs) → P (.inl (some (aI (nI T)))) (rF M (r108 (M.1 108) (dn + T) (arun W tape op dn (k, xs, tk, b) T).2.2.1 (arun W tape op dn (k, xs, tk, b) T).2.2.2 gk) q o f (c5 (M.2 150) (2 ^ W) (fun j => red (arun W tape op dn (k, xs, tk, b) T).1 ((arun W tape op dn (k, xs, tk, b) T).2.1 j))))) : ∀ (m i : Nat), i + m = T → ∀ q o f gk, (gk = 0 ∨ gk = M.1 108 74 ∧ (arun W tape op dn (k, xs, tk, b) i).1 = k ∧ (arun W tape op dn (k, xs, tk, b) i).2.1 = xs) → X 54 [some (aR 108), some (aI (nI p)), some (aI (nI i))] [] (rF M (r108 (M.1 108) (dn + i) (arun W tape op dn (k, xs, tk, b) i).2.2.1 (arun W tape op dn (k, xs, tk, b) i).2.2.2 gk) q o f (c5 (M.2 150) (2 ^ W) (fun j => red (arun W tape op dn (k, xs, tk, b) i).1 ((arun W tape op dn (k, xs, tk, b) i).2.1 j)))) := by
  obtain ⟨⟨hbk, hcc, hbc, hops⟩, ⟨w8, k60, h65, h66, h71⟩, hrn, _, hdn, htk, hb, hkk, h60⟩ := h
  have hS300 := hbc.2.2.1
  have hn20 := hbk.1
  have hao : aok W (k, xs, tk, b) := ⟨hrn.2, hb⟩
  have r66 : ∀ i q o f gk, (rF M (r108 (M.1 108) (dn + i) (arun W tape op dn (k, xs, tk, b) i).2.2.1 (arun W tape op dn (k, xs, tk, b) i).2.2.2 gk) q o f (c5 (M.2 150) (2 ^ W) (fun j => red (arun W tape op dn (k, xs, tk, b) i).1 ((arun W tape op dn (k, xs, tk, b) i).2.1 j)))).1 108 66 = nI c := fun i q o f gk => by
    rw [rF_108]
    exact h66
  have r67 : ∀ i q o f gk, (rF M (r108 (M.1 108) (dn + i) (arun W tape op dn (k, xs, tk, b) i).2.2.1 (arun W tape op dn (k, xs, tk, b) i).2.2.2 gk) q o f (c5 (M.2 150) (2 ^ W) (fun j => red (arun W tape op dn (k, xs, tk, b) i).1 ((arun W tape op dn (k, xs, tk, b) i).2.1 j)))).1 108 67 = nI (dn + i) := fun i q o f gk => by
    rw [rF_108]
    rfl
  intro m
  induction m with
  | zero =>
    intro i hi q o f gk hg
    have hi : i = T := by omega
    subst hi
    refine am_run hX 3 _ _ _ _ ?_
    conv => whnf
    refine ⟨fun _ => ?_, fun c9 => ?_⟩
    · refine am_run hX 3 _ _ _ _ ?_
      conv => whnf
      exact ⟨trivial, hP _ _ _ _ hg⟩
    · have hi2 : i < p := by
        apply Decidable.byContradiction
        intro hc
        exact c9 (nI_le (by omega) (by omega))
      refine am_run hX 8 _ _ _ _ ?_
      conv => whnf
      rw [r66]
      refine ⟨vp_in_nI (by show c < 21; omega) (by decide), ?_⟩
      conv => whnf
      rw [nI_clamp (n := c) (by omega), r67, show (rF M (r108 (M.1 108) (dn + i) (arun W tape op dn (k, xs, tk, b) i).2.2.1 (arun W tape op dn (k, xs, tk, b) i).2.2.2 gk) q o f (c5 (M.2 150) (2 ^ W) (fun j => red (arun W tape op dn (k, xs, tk, b) i).1 ((arun W tape op dn (k, xs, tk, b) i).2.1 j)))).1 111 c = nI S from hbc.2.2.2.2.2.2.1]
      refine ⟨fun _ => ?_, fun c => absurd (nI_le (by omega) (by omega)) c⟩
      refine am_run hX 3 _ _ _ _ ?_
      conv => whnf
      exact ⟨trivial, hP _ _ _ _ hg⟩
  | succ m ih =>
    intro i hi q o f gk hg
    have ih := ih (i + 1) (by omega)
    obtain ⟨a1, a2, a3⟩ := ar_ok (tape := tape) (fun j hj => (hops j hj).1) hao hkk htk i (by omega)
    obtain ⟨b1, b2, b3⟩ := ar_ok (tape := tape) (fun j hj => (hops j hj).1) hao hkk htk (i + 1) (by omega)
    have hm := hcn_m op (dn + i) (S - (dn + i))
    rw [show dn + i + (S - (dn + i)) = S by omega] at hm
    have hm2 := hcn_m op (dn + (i + 1)) (S - (dn + (i + 1)))
    rw [show dn + (i + 1) + (S - (dn + (i + 1))) = S by omega] at hm2
    obtain ⟨og, bo⟩ := hops (dn + i) (by omega)
    refine am_run hX 3 _ _ _ _ ?_
    conv => whnf
    refine ⟨fun c => absurd c (nI_ge (by omega) (by omega)), fun _ => ?_⟩
    refine am_run hX 8 _ _ _ _ ?_
    conv => whnf
    rw [r66]
    refine ⟨vp_in_nI (by show c < 21; omega) (by decide), ?_⟩
    conv => whnf
    rw [nI_clamp (n := c) (by omega), r67, show (rF M (r108 (M.1 108) (dn + i) (arun W tape op dn (k, xs, tk, b) i).2.2.1 (arun W tape op dn (k, xs, tk, b) i).2.2.2 gk) q o f (c5 (M.2 150) (2 ^ W) (fun j => red (arun W tape op dn (k, xs, tk, b) i).1 ((arun W tape op dn (k, xs, tk, b) i).2.1 j)))).1 111 c = nI S from hbc.2.2.2.2.2.2.1]
    refine ⟨fun c => absurd c (nI_ge (by omega) (by omega)), fun _ => ?_⟩
    refine am_run hX 17 _ _ _ _ ?_
    conv => whnf
    rw [r66, r67, bk_ix2 hn20 hcc (by omega)]
    refine am_cq (ct_doOp (d := d) (M := M) (g := M.2 150) (tape := tape) w8 og (by omega) bo (by omega) (by omega) (by have : (ast W tape (op (dn + i)) (arun W tape op dn (k, xs, tk, b) i)).1 ≤ hcn op (dn + (i + 1)) := b2; exact Nat.le_trans this (by omega)) a1 hT h71) ?_
    rintro r M' ⟨rfl, q', o', f', gk', hgk, rfl⟩
    have hg' : gk' = 0 ∨ gk' = M.1 108 74 ∧ (arun W tape op dn (k, xs, tk, b) (i + 1)).1 = k ∧ (arun W tape op dn (k, xs, tk, b) (i + 1)).2.1 = xs := by
      rcases hgk with h0 | ⟨h1, h2⟩
      · exact Or.inl h0
      · rcases hg with g0 | ⟨g1, g2, g3⟩
        · exact Or.inl (h1.trans g0)
        · have h3 : arun W tape op dn (k, xs, tk, b) (i + 1) = arun W tape op dn (k, xs, tk, b) i := h2
          rw [h3]
          exact Or.inr ⟨h1.trans g1, g2, g3⟩
    refine ⟨none, rfl, ?_⟩
    conv => whnf
    rw [rF_108, show ∀ (g : Nat → Int32) (x1 x2 x3 : Nat) (x4 : Int32), r108 g x1 x2 x3 x4 67 = nI x1 from fun _ _ _ _ _ => rfl, nI_1, nI_1, rF_D, r108_67]
    exact ih _ _ _ _ hg'
set_option maxRecDepth 100000 in
theorem ru_m1 {n c W S k dn tk b p T : Nat} {op : Nat → bk_X} {xs : Nat → R4} {tape : Int64} {P : am_Q} (h : run_rv M n c W S op k xs dn tk b) (hT : M.2 108 69 = tape) (hp : 1 ≤ p) (hp4 : p ≤ 400) (hdS : dn < S) (eT : T = min p (S - dn)) (hP : ∀ q o f gk, (gk = 0 ∨ gk = M.1 108 74 ∧ (arun W tape op dn (k, xs, tk, b) T).1 = k ∧ (arun W tape op dn (k, xs, tk, b) T).2.1 = xs) → P (.inl (some (aI (nI T)))) (let M := th0 M; (rF M (r108 (M.1 108) (dn + T) (arun W tape op dn (k, xs, tk, b) T).2.2.1 (arun W tape op dn (k, xs, tk, b) T).2.2.2 gk) q o f (c5 (M.2 150) (2 ^ W) (fun j => red (arun W tape op dn (k, xs, tk, b) T).1 ((arun W tape op dn (k, xs, tk, b) T).2.1 j)))))) : am_M (d + 7) false nm_X12_run [aR 108, aI (nI p)] M P := by
  have h0 : run_rv (th0 M) n c W S op k xs dn tk b := h
  obtain ⟨⟨hbk, hcc, hbc, hops⟩, ⟨w8, k60, h65, h66, h71⟩, hrn, ⟨e2, _⟩, hdn, htk, hb, hkk, h60⟩ := h
  have hS300 := hbc.2.2.1
  have hn20 := hbk.1
  refine ⟨rfl, rfl, rfl, fun X hX => am_run hX 3 _ _ _ _ ?_⟩
  conv => whnf
  refine ⟨fun c => absurd c (nI_nlt (a := p) (b := 1) (by omega) (by omega)), fun _ => ?_⟩
  refine am_run hX 3 _ _ _ _ ?_
  conv => whnf
  refine ⟨fun _ => ?_, fun c => absurd (nI_le (a := p) (b := 400) (by omega) (by decide)) c⟩
  refine am_run hX 3 _ _ _ _ ?_
  conv => whnf
  rw [h65]
  refine ⟨fun c => absurd c (by decide), fun _ => ?_⟩
  refine am_run hX 8 _ _ _ _ ?_
  conv => whnf
  rw [h66]
  refine ⟨vp_in_nI (by show c < 21; omega) (by decide), ?_⟩
  conv => whnf
  rw [nI_clamp (n := c) (by omega), hbc.2.2.2.2.2.2.1, e2, nI_eq (by omega) (by omega)]
  refine ⟨fun _ => ?_, fun c => absurd (by omega) c⟩
  refine am_run hX 5 _ _ _ _ ?_
  conv => whnf
  have key := rm_l (d := d) (M := th0 M) (tape := tape) (p := p) (T := T) hX h0 hT hp4 eT hP T 0 (by omega) ((th0 M).2 152) ((th0 M).2 119) ((th0 M).2 118) ((th0 M).1 108 74) (Or.inr ⟨rfl, rfl, rfl⟩)
  have z := rS_0 (M := th0 M) (tape := tape) h0
  dsimp only at z
  rw [z] at key
  exact key
end RUN
section RUP
variable {ac : Nat → ClassId} {lo : Nat} {ad as : Nat → Nat} {b' L : Nat} {ys : Nat → Int32} {hp : mm_M → Nat → xm_H} {I J : mm_M → Prop}
/-- the memory behind a run of both -/
def ru_af (M : mm_M) (W : Nat) (dn T : Nat) (σ : ru_A) (gv gk : Int32) (v : Int64) (q o f : Nat → Int64) : mm_M := rF (th0 (lt_o (cF M (c17 (M.1 17) (dn + T) σ.2.2.1 σ.2.2.2 gv) (upd (M.1 18) 3 (nI σ.1)) (cq (M.2 20) (2 ^ W) σ.2.1)) v)) (r108 ((th0 (lt_o (cF M (c17 (M.1 17) (dn + T) σ.2.2.1 σ.2.2.2 gv) (upd (M.1 18) 3 (nI σ.1)) (cq (M.2 20) (2 ^ W) σ.2.1)) v)).1 108) (dn + T) σ.2.2.1 σ.2.2.2 gk) q o f (c5 (M.2 150) (2 ^ W) (fun j => red σ.1 (σ.2.1 j)))
theorem nI_ne1 {p : Int32} (h : ¬ p < 1) (h4 : p ≤ 400) : ∃ n, 1 ≤ n ∧ n ≤ 400 ∧ p = nI n := by
  have h0 : ¬ p < 0 := fun c => h (by
    rw [Int32.lt_iff_toInt_lt] at c ⊢
    have e0 : (0 : Int32).toInt = 0 := rfl
    have e1 : (1 : Int32).toInt = 1 := rfl
    rw [e0] at c
    rw [e1]
    omega)
  obtain ⟨n, hn, rfl⟩ := nI_of h0
  refine ⟨n, ?_, ?_, rfl⟩
  · apply Decidable.byContradiction
    intro hc
    exact h (nI_lt (b := 1) (by omega) (by decide))
  · apply Decidable.byContradiction
    intro hc
    exact nI_ge (a := 400) (b := n) (by omega) hn h4
theorem pr_run (H : mm_L ac lo hp) (h1 : ∀ M, I M → (M.1 17 5 = -1 ∧ M.1 108 65 = 0) ∨ ∃ n c W S op k xs dn tk b, run_iv M n c W S op k xs dn tk b) (hJ : ∀ M n c W S op k xs dn tk b T gk v q o f, I M → run_iv M n c W S op k xs dn tk b → 0 < T → dn + T ≤ S → (gk = 0 ∨ gk = M.1 108 74 ∧ (arun W (M.2 17 11) op dn (k, xs, tk, b) T).1 = k ∧ (arun W (M.2 17 11) op dn (k, xs, tk, b) T).2.1 = xs) → J (ru_af M W dn T (arun W (M.2 17 11) op dn (k, xs, tk, b) T) (-1) gk v q o f)) (hJ1 : ∀ M, I M → J (th1 M)) (hJ2 : ∀ M, I M → J (th2 M)) (p : Int32) : la_TI ac lo ad as b' L ys hp I J nm_L_run nm_X12_run [.int p] := by
  refine lt_run H p fun M hI => ?_
  by_cases hp0 : p < 1 ∨ ¬ p ≤ 400
  · refine am_wk (ru_x0 hp0) fun r M1 e => Or.inr (Or.inl ⟨e.1, ?_⟩)
    rw [e.2]
    exact am_wk (ru_m0 (d := 998) hp0) fun r M2 e => ⟨⟨0, e.1⟩, by rw [e.2]; simp [th1, mm_i, upd], by rw [e.2]; exact hJ1 M hI⟩
  · have hp1 : ¬ p < 1 := fun c => hp0 (Or.inl c)
    have hp4 : p ≤ 400 := Decidable.byContradiction fun c => hp0 (Or.inr c)
    by_cases hno : ru_no M
    · refine am_wk (ru_x2 hp1 hp4 hno) fun r M1 e => Or.inr (Or.inr ⟨e.1, ?_⟩)
      rw [e.2]
      exact am_wk (ru_m2 (d := 998) hp1 hp4 hno) fun r M2 e => ⟨⟨0, e.1⟩, by rw [e.2]; simp [th2, mm_i, upd], by rw [e.2]; exact hJ2 M hI⟩
    · rcases h1 M hI with h | ⟨n, c, W, S, op, k, xs, dn, tk, b, h⟩
      · exact absurd (Or.inl h) hno
      · have hdS : dn < S := by
          have h2 := h.2.2.2.1
          apply Decidable.byContradiction
          intro hc
          exact hno (Or.inr ⟨n, c, W, S, op, k, xs, dn, tk, b, h, by omega⟩)
        obtain ⟨m, m1, m4, rfl⟩ := nI_ne1 hp1 hp4
        refine am_wk (ru_x1 (d := 992) (T := min m (S - dn)) h rfl m1 m4 hdS rfl true) fun r M1 e => Or.inl ⟨_, e.1, ?_⟩
        obtain ⟨_, gv, hgv, rfl⟩ := e
        have hgv := hgv (by omega)
        subst hgv
        generalize eT : min m (S - dn) = T
        have hT0 : 0 < T := by omega
        have hTS : dn + T ≤ S := by omega
        have hr0 : run_rv M n c W S op k xs dn tk b := run_r h
        have hr : run_rv (lt_o (cF M (c17 (M.1 17) (dn + T) (arun W (M.2 17 11) op dn (k, xs, tk, b) T).2.2.1 (arun W (M.2 17 11) op dn (k, xs, tk, b) T).2.2.2 (-1)) (upd (M.1 18) 3 (nI (arun W (M.2 17 11) op dn (k, xs, tk, b) T).1)) (cq (M.2 20) (2 ^ W) (arun W (M.2 17 11) op dn (k, xs, tk, b) T).2.1)) (nI T).toInt64) n c W S op k xs dn tk b := hr0
        refine ru_m1 (d := 993) (tape := M.2 17 11) hr h.2.2.1.2.2.2.2.2.2.symm m1 m4 hdS eT.symm fun q o f gk hg => ⟨rfl, ?_, ?_, ?_⟩
        · show (rF _ _ _ _ _ _).1 108 0 = 0
          rw [rF_108]
          show (th0 _).1 108 0 = 0
          simp [th0, mm_i, upd]
        · simp [rF, v4, th0, lt_o, mm_i, mm_l, vp_updL]
        · exact hJ M n c W S op k xs dn tk b T gk _ q o f hI h hT0 hTS hg
end RUP
