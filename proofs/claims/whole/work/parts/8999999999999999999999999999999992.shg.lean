/-! SHORTEST: the reference keeps a key -/
/-- what a kept key changes -/
def kpF (n : Nat) (fr : Int32) (g : Nat) (M N : mm_M) : Prop := (∀ k, k ≠ 108 → (k < 136 ∨ 139 < k) → N.1 k = M.1 k) ∧ N.2 = M.2 ∧ (∀ y, y ≠ 49 → N.1 108 y = M.1 108 y) ∧ N.1 137 = upd (M.1 137) n fr ∧ N.1 138 = upd (M.1 138) n (nI g)
def upK (T : Nat → K4) (n : Nat) (t : K4) : Nat → K4 := fun i => if i = n then t else T i
section SHG
variable {d : Nat} {M : mm_M} {n g : Nat} {T : Nat → K4} {B : Nat → Nat} {t : K4} {fr : Int32}
set_option maxRecDepth 100000 in
theorem kt_e {P : am_Q} {X : am_X} {b : Nat} (hX : am_K (d + 1) false nm_X12_keepTwo P X) (h49 : M.1 108 49 = nI n) (hn : n < 11520) (hg : g < 5) (hb : b < 32768) (hP : ∀ N, kpF n fr g M N → N.1 108 49 = nI (n + 1) → N.1 136 = upd (M.1 136) n (nI (kK t)) → N.1 139 = upd (M.1 139) b (nI (n + 1)) → P (.inl none) N) : X 29 [some (aR 108), some (aI (nI (kK t))), some (aI fr), some (aI (nI g)), some (aI (nI b))] [] M := by
  refine am_run hX 6 _ _ _ _ ?_
  conv => whnf
  rw [h49]
  refine ⟨vp_in_nI (by show n < 11520; omega) (by decide), ?_⟩
  rw [nI_clamp (n := n) (by omega)]
  generalize hM1 : mm_i M 136 _ = N1
  have f1 : N1.1 108 49 = nI n := by rw [← hM1]; exact h49
  refine am_run hX 6 _ _ _ _ ?_
  conv => whnf
  rw [f1]
  refine ⟨vp_in_nI (by show n < 11520; omega) (by decide), ?_⟩
  rw [nI_clamp (n := n) (by omega)]
  generalize hM2 : mm_i N1 137 _ = N2
  have f2 : N2.1 108 49 = nI n := by rw [← hM2]; exact f1
  refine am_run hX 7 _ _ _ _ ?_
  conv => whnf
  rw [f2]
  refine ⟨vp_in_nI (by show n < 11520; omega) (by decide), ?_⟩
  rw [nI_clamp (n := n) (by omega)]
  generalize hM3 : mm_i N2 138 _ = N3
  have f3 : N3.1 108 49 = nI n := by rw [← hM3]; exact f2
  refine am_run hX 6 _ _ _ _ ?_
  conv => whnf
  rw [f3, nI_1]
  generalize hM4 : mm_i N3 108 _ = N4
  have f4 : N4.1 108 49 = nI (n + 1) := by rw [← hM4, mm_i1]; exact up_at
  refine am_run hX 7 _ _ _ _ ?_
  conv => whnf
  rw [f4]
  refine ⟨vp_in_nI (by show b < 32768; omega) (by decide), ?_⟩
  rw [nI_clamp (n := b) (by omega)]
  generalize hM5 : mm_i N4 139 _ = N5
  conv => whnf
  refine ⟨trivial, hP N5 ?_ ?_ ?_ ?_⟩
  · refine ⟨fun k a b => ?_, ?_, fun y hy => ?_, ?_, ?_⟩
    · rw [← hM5, mm_ne _ _ _ _ (by omega), ← hM4, mm_ne _ _ _ _ a, ← hM3, mm_ne _ _ _ _ (by omega), ← hM2, mm_ne _ _ _ _ (by omega), ← hM1, mm_ne _ _ _ _ (by omega)]
    · rw [← hM5, ← hM4, ← hM3, ← hM2, ← hM1]
      rfl
    · rw [← hM5, mm_ne _ _ _ _ (by decide), ← hM4, mm_i1, up_ne hy, ← hM3, mm_ne _ _ _ _ (by decide), ← hM2, mm_ne _ _ _ _ (by decide), ← hM1, mm_ne _ _ _ _ (by decide)]
    · rw [← hM5, mm_ne _ _ _ _ (by decide), ← hM4, mm_ne _ _ _ _ (by decide), ← hM3, mm_ne _ _ _ _ (by decide), ← hM2, mm_i1, ← hM1, mm_ne _ _ _ _ (by decide)]
    · rw [← hM5, mm_ne _ _ _ _ (by decide), ← hM4, mm_ne _ _ _ _ (by decide), ← hM3, mm_i1, ← hM2, mm_ne _ _ _ _ (by decide), ← hM1, mm_ne _ _ _ _ (by decide)]
      congr 1
      rcases (by omega : g = 0 ∨ g = 1 ∨ g = 2 ∨ g = 3 ∨ g = 4) with rfl | rfl | rfl | rfl | rfl <;> rfl
  · rw [← hM5, mm_ne _ _ _ _ (by decide)]
    exact f4
  · rw [← hM5, mm_ne _ _ _ _ (by decide), ← hM4, mm_ne _ _ _ _ (by decide), ← hM3, mm_ne _ _ _ _ (by decide), ← hM2, mm_ne _ _ _ _ (by decide), ← hM1, mm_i1]
  · rw [← hM5, mm_i1, ← hM4, mm_ne _ _ _ _ (by decide), ← hM3, mm_ne _ _ _ _ (by decide), ← hM2, mm_ne _ _ _ _ (by decide), ← hM1, mm_ne _ _ _ _ (by decide)]
set_option maxRecDepth 100000 in
theorem kt_l {P : am_Q} {X : am_X} {e : Nat} (hX : am_K (d + 1) false nm_X12_keepTwo P X) (h : twT M n T B) (he : B ((bkN (kK t) + e) % 32768) = 0) (hK : ∀ s, B ((bkN (kK t) + s) % 32768) = 0 → s ≤ e → (∀ u, u < s → B ((bkN (kK t) + u) % 32768) ≠ 0) → X 29 [some (aR 108), some (aI (nI (kK t))), some (aI fr), some (aI (nI g)), some (aI (nI ((bkN (kK t) + s) % 32768)))] [] M) : ∀ (m s : Nat), s + m = e → (∀ u, u < s → B ((bkN (kK t) + u) % 32768) ≠ 0) → X 6 [some (aR 108), some (aI (nI (kK t))), some (aI fr), some (aI (nI g)), some (aI (nI ((bkN (kK t) + s) % 32768)))] [] M := by
  obtain ⟨t1, t2, t3, t4, t5, t6⟩ := h
  intro m
  induction m with
  | zero =>
    intro s hs hu
    obtain rfl : s = e := by omega
    have hb : (bkN (kK t) + s) % 32768 < 32768 := Nat.mod_lt _ (by decide)
    have hc := (t4 _ hb).1
    rw [he] at hc
    refine am_run hX 5 _ _ _ _ ?_
    conv => whnf
    refine ⟨vp_in_nI hb (by decide), ?_⟩
    conv => whnf
    rw [nI_clamp (n := (bkN (kK t) + s) % 32768) (by omega), hc]
    refine ⟨fun _ => ?_, fun z => absurd rfl z⟩
    exact hK s he (Nat.le_refl _) hu
  | succ m ih =>
    intro s hs hu
    have hb : (bkN (kK t) + s) % 32768 < 32768 := Nat.mod_lt _ (by decide)
    obtain ⟨hc, hl⟩ := t4 _ hb
    refine am_run hX 5 _ _ _ _ ?_
    conv => whnf
    refine ⟨vp_in_nI hb (by decide), ?_⟩
    conv => whnf
    rw [nI_clamp (n := (bkN (kK t) + s) % 32768) (by omega), hc, show (0 : Int32) = nI 0 from rfl, nI_eq (by omega) (by decide)]
    refine ⟨fun z => ?_, fun z => ?_⟩
    · exact hK s z (by omega) hu
    · refine am_run hX 7 _ _ _ _ ?_
      conv => whnf
      rw [nI_1, show (32767 : Int32) = nI 32767 from rfl, nI_and, show ((bkN (kK t) + s) % 32768 + 1) &&& 32767 = (bkN (kK t) + (s + 1)) % 32768 from by
        rw [show 32767 = 2 ^ 15 - 1 from rfl, Nat.and_two_pow_sub_one_eq_mod]
        omega]
      refine ih (s + 1) (by omega) (fun u hu' => ?_)
      by_cases eu : u = s
      · subst eu
        exact z
      · exact hu u (by omega)
set_option maxRecDepth 100000 in
theorem ct_kTwo (h : twT M n T B) (hn : n < 11520) (ht : k4 t) (hg : g < 5) : am_M (d + 2) false nm_X12_keepTwo [aR 108, aI (nI (kK t)), aI fr, aI (nI g)] M (fun r N => r = .inl none ∧ kpF n fr g M N ∧ ∃ B', twT N (n + 1) (upK T n t) B') := by
  obtain ⟨e, e3, he⟩ := tw_em h (bkN (kK t))
  have hb : bkN (kK t) < 32768 := Nat.mod_lt _ (by decide)
  refine ⟨rfl, rfl, rfl, fun X hX => am_run hX 2 _ _ _ _ ?_⟩
  conv => whnf
  refine am_c1 (ct_buk (d := d) (kK_l ht)) ?_
  refine am_run hX 1 _ _ _ _ ?_
  conv => whnf
  have key := kt_l (d := d) (M := M) (fr := fr) (g := g) (t := t) hX h he (fun s hs hse hu => kt_e (d := d) (M := M) hX h.1 hn hg (Nat.mod_lt _ (by decide)) (fun N f1 f2 f3 f4 => ⟨rfl, f1, (fun b => if b = (bkN (kK t) + s) % 32768 then n + 1 else B b), ?_⟩)) e 0 (by omega) (fun u hu => by omega)
  · rw [Nat.add_zero, Nat.mod_eq_of_lt hb] at key
    exact key
  · obtain ⟨t1, t2, t3, t4, t5, t6⟩ := h
    refine ⟨f2, by omega, fun i hi => ?_, fun b hb => ?_, fun i hi => ?_, ?_⟩
    · unfold upK
      by_cases q : i = n
      · rw [if_pos q, f3, q]
        exact ⟨ht, up_at⟩
      · rw [if_neg q, f3, up_ne q]
        exact t3 i (by omega)
    · rw [f4]
      show upd (M.1 139) _ _ b = nI (if b = _ then n + 1 else B b) ∧ (if b = _ then n + 1 else B b) ≤ n + 1
      by_cases q : b = (bkN (kK t) + s) % 32768
      · rw [if_pos q, q]
        exact ⟨up_at, Nat.le_refl _⟩
      · rw [if_neg q, up_ne q]
        exact ⟨(t4 b hb).1, Nat.le_succ_of_le (t4 b hb).2⟩
    · unfold upK
      by_cases q : i = n
      · rw [if_pos q, q]
        refine ⟨s, by omega, if_pos rfl, fun u hu' => ?_⟩
        show (if _ = _ then n + 1 else B _) ≠ 0
        split
        · omega
        · exact hu u hu'
      · rw [if_neg q]
        obtain ⟨v, v1, v2, v3⟩ := t5 i (by omega)
        refine ⟨v, v1, ?_, fun u hu' => ?_⟩
        · show (if _ = _ then n + 1 else B _) = _
          rw [if_neg (fun z => by rw [z, hs] at v2; omega)]
          exact v2
        · show (if _ = _ then n + 1 else B _) ≠ 0
          split
          · omega
          · exact v3 u hu'
    · rw [cz_u (p := (bkN (kK t) + s) % 32768) hs (by show (if _ = _ then n + 1 else B _) ≠ 0; rw [if_pos rfl]; omega) (fun b hb => if_neg hb) 32768 (Nat.mod_lt _ (by decide)), t6]
end SHG
