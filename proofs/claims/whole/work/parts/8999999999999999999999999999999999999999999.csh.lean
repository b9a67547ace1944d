/-! circuit: laying, as functions -/
theorem ll_o (M : mm_M) (n : Nat) (l : List bk_X) {k : Nat} (g : Nat → Int32) (hk : k ≠ 108) (h2 : ¬ (112 ≤ k ∧ k ≤ 117)) : mm_i (llM M n l) k g = llM (mm_i M k g) n l := by
  refine Prod.ext (funext fun q => ?_) rfl
  by_cases e : q = k
  · subst e
    rw [mm_i1, ll_r _ _ _ hk h2, mm_i1]
  · rw [mm_ne _ _ _ _ e]
    by_cases e8 : q = 108
    · subst e8
      rw [ll_108, ll_108, mm_ne _ _ _ _ e]
    · by_cases e2 : 112 ≤ q ∧ q ≤ 117
      · unfold llM lyT
        rw [mm_ne _ _ _ _ e8, mm_ne _ _ _ _ e8]
        rcases (by omega : q = 112 ∨ q = 113 ∨ q = 114 ∨ q = 115 ∨ q = 116 ∨ q = 117) with z | z | z | z | z | z
        · subst z; rw [ly_112, ly_112, mm_ne _ _ _ _ e]
        · subst z; rw [ly_113, ly_113, mm_ne _ _ _ _ e]
        · subst z; rw [ly_114, ly_114, mm_ne _ _ _ _ e]
        · subst z; rw [ly_115, ly_115, mm_ne _ _ _ _ e]
        · subst z; rw [ly_116, ly_116, mm_ne _ _ _ _ e]
        · subst z; rw [ly_117, ly_117, mm_ne _ _ _ _ e]
      · rw [ll_r _ _ _ e8 e2, ll_r _ _ _ e8 e2, mm_ne _ _ _ _ e]
theorem stp_1 {a : Nat × Nat × Nat} (h : a.2.2 = 1) : ∀ k : List bk_X, k.foldl stp a = a
  | [] => rfl
  | x :: k => by
    have e : stp a x = a := by
      unfold stp
      rw [if_pos (Or.inl h)]
      obtain ⟨a1, a2, a3⟩ := a
      have h : a3 = 1 := h
      rw [h]
    show k.foldl stp (stp a x) = a
    rw [e]
    exact stp_1 h k
/-- one too many: nothing more is laid -/
theorem ll_tm {M : mm_M} {n : Nat} {l k : List bk_X} (h : (ly3 l).2.2 = 1) : llM M n (l ++ k) = llM M n l := by
  have e : ly3 (l ++ k) = ly3 l := by
    unfold ly3 at h ⊢
    rw [List.foldl_append]
    exact stp_1 h k
  have p := (ly3_p l).2.2.2.2.2
  unfold llM lyT
  rw [e, lyM_x (Z := zg (l ++ k)) (Y := zg l) (fun j hj => zg_a (by omega))]
theorem ly3_b (l : List bk_X) : (ly3 l).2.2 = 0 ∨ (ly3 l).2.2 = 1 := by
  have := (ly3_p l).2.2.1
  omega
theorem ikN_2 (k : Nat) : ikN (ikN k) = k := by
  unfold ikN
  repeat' split
  all_goals omega
theorem ikN_8 (k : Nat) : ikN k = 8 ↔ k = 8 := by
  unfold ikN
  repeat' split
  all_goals omega
theorem ivX_2 (x : bk_X) : ivX (ivX x) = x := by
  unfold ivX
  show (ikN (ikN x.1), x.2) = x
  rw [ikN_2]
theorem ivX_r (f : Nat → Nat) (h : Nat) (x : bk_X) : ivX (rnX f h x) = rnX f h (ivX x) := by
  unfold ivX rnX
  show (ikN x.1, f x.2.1, (if x.1 = 8 then f x.2.2.1 else x.2.2.1), _, _, _) = (ikN x.1, f x.2.1, (if ikN x.1 = 8 then f x.2.2.1 else x.2.2.1), _, _, _)
  by_cases q : x.1 = 8
  · rw [if_pos q, if_pos ((ikN_8 _).mpr q)]
  · rw [if_neg q, if_neg (fun z => q ((ikN_8 _).mp z))]
theorem ivX_a (a : Nat × Nat) (x : bk_X) : ivX (adA a x) = adA a (ivX x) := rfl
theorem ivL_m {φ : bk_X → bk_X} (h : ∀ x, ivX (φ x) = φ (ivX x)) (b : Bool) (L : List bk_X) : ivL b (L.map φ) = (ivL b L).map φ := by
  unfold ivL
  cases b with
  | false => rfl
  | true =>
    rw [if_pos rfl, if_pos rfl, ← List.map_reverse, List.map_map, List.map_map]
    refine List.map_congr_left (fun x _ => ?_)
    exact h x
theorem ivL_2 (a b : Bool) (L : List bk_X) : ivL a (ivL b L) = ivL (a != b) L := by
  unfold ivL
  cases a <;> cases b
  · rfl
  · rfl
  · rfl
  · show ((L.reverse.map ivX).reverse).map ivX = L
    rw [List.map_reverse, List.map_map, ← List.map_reverse, List.reverse_reverse]
    have : L.map (ivX ∘ ivX) = L.map id := List.map_congr_left (fun x _ => ivX_2 x)
    rw [this, List.map_id]
/-- what is laid of OPS: WIRES by f, backwards or not, CONTROLS h more, asked m more -/
def ouL (f : Nat → Nat) (inv : Bool) (h : Nat) (m : Nat × Nat) (L : List bk_X) : List bk_X := (ivL inv L).map (fun x => adA m (rnX f h x))
theorem ouL_0 (f : Nat → Nat) (inv : Bool) (h : Nat) (m : Nat × Nat) : ouL f inv h m [] = [] := by
  cases inv <;> rfl
theorem ouL_af (f : Nat → Nat) (h : Nat) (m : Nat × Nat) (A B : List bk_X) : ouL f false h m (A ++ B) = ouL f false h m A ++ ouL f false h m B := List.map_append
theorem ouL_at (f : Nat → Nat) (h : Nat) (m : Nat × Nat) (A B : List bk_X) : ouL f true h m (A ++ B) = ouL f true h m B ++ ouL f true h m A := by
  unfold ouL ivL
  rw [if_pos rfl, if_pos rfl, if_pos rfl, List.reverse_append, List.map_append, List.map_append]
theorem ouL_rp (f : Nat → Nat) (inv : Bool) (h : Nat) (m : Nat × Nat) (B : List bk_X) : ∀ q, ouL f inv h m (rpt B q) = rpt (ouL f inv h m B) q
  | 0 => ouL_0 f inv h m
  | q + 1 => by
    cases inv with
    | false =>
      show ouL f false h m (B ++ rpt B q) = ouL f false h m B ++ rpt (ouL f false h m B) q
      rw [ouL_af, ouL_rp f false h m B q]
    | true =>
      rw [rpt_e]
      show ouL f true h m (rpt B q ++ B) = ouL f true h m B ++ rpt (ouL f true h m B) q
      rw [ouL_at, ouL_rp f true h m B q]
theorem mpM_t {f : Nat → Nat} {m y : Nat} : (mpM f m).testBit y = true ↔ ∃ i, i < 8 ∧ m.testBit i = true ∧ f i = y := mpN_t 8
theorem nat_tb {a b : Nat} (h : ∀ y, a.testBit y = true ↔ b.testBit y = true) : a = b := by
  apply Nat.eq_of_testBit_eq
  intro y
  have := h y
  cases p : a.testBit y <;> cases q : b.testBit y
  · rfl
  · rw [p, q] at this; exact absurd (this.mpr rfl) (by decide)
  · rw [p, q] at this; exact absurd (this.mp rfl) (by decide)
  · rfl
theorem mpM_id {m : Nat} (h : m < 256) : mpM (fun i => i) m = m := by
  refine nat_tb (fun y => ?_)
  rw [mpM_t]
  constructor
  · rintro ⟨i, _, b, rfl⟩
    exact b
  · intro b
    refine ⟨y, ?_, b, rfl⟩
    by_cases q : y < 8
    · exact q
    · have := Nat.testBit_lt_two_pow (x := m) (i := y) (Nat.lt_of_lt_of_le h (Nat.pow_le_pow_right (n := 2) (by decide) (by omega : 8 ≤ y)))
      rw [this] at b
      exact absurd b (by decide)
theorem mpM_or (f : Nat → Nat) (a b : Nat) : mpM f (a ||| b) = mpM f a ||| mpM f b := by
  refine nat_tb (fun y => ?_)
  rw [mpM_t, Nat.testBit_or, Bool.or_eq_true, mpM_t, mpM_t]
  constructor
  · rintro ⟨i, h1, h2, h3⟩
    rw [Nat.testBit_or, Bool.or_eq_true] at h2
    rcases h2 with h2 | h2
    · exact Or.inl ⟨i, h1, h2, h3⟩
    · exact Or.inr ⟨i, h1, h2, h3⟩
  · rintro (⟨i, h1, h2, h3⟩ | ⟨i, h1, h2, h3⟩)
    · exact ⟨i, h1, by rw [Nat.testBit_or, h2]; rfl, h3⟩
    · exact ⟨i, h1, by rw [Nat.testBit_or, h2, Bool.or_true], h3⟩
theorem mpM_k {f : Nat → Nat} {cs : List Nat} (h : ∀ w ∈ cs, w < 8) : mpM f (mskL cs) = mskL (cs.map f) := by
  refine nat_tb (fun y => ?_)
  rw [mpM_t, mskL_t, decide_eq_true_iff, List.mem_map]
  constructor
  · rintro ⟨i, h1, h2, h3⟩
    rw [mskL_t, decide_eq_true_iff] at h2
    exact ⟨i, h2, h3⟩
  · rintro ⟨w, h1, h2⟩
    exact ⟨w, h w h1, by rw [mskL_t, decide_eq_true_iff]; exact h1, h2⟩
/-- WIRES by g, then by f -/
theorem mpM_c {f g f' : Nat → Nat} {m K : Nat} (hm : m < 2 ^ K) (hg : ∀ i, i < K → g i < 8) (hf : ∀ i, i < K → f' i = f (g i)) (hK : K ≤ 8) : mpM f (mpM g m) = mpM f' m := by
  have hb : ∀ i, m.testBit i = true → i < K := by
    intro i hi
    by_cases q : i < K
    · exact q
    · rw [Nat.testBit_lt_two_pow (Nat.lt_of_lt_of_le hm (Nat.pow_le_pow_right (by decide) (by omega)))] at hi
      exact absurd hi (by decide)
  refine nat_tb (fun y => ?_)
  rw [mpM_t, mpM_t]
  constructor
  · rintro ⟨i, _, h2, h3⟩
    obtain ⟨j, j1, j2, j3⟩ := mpM_t.mp h2
    exact ⟨j, j1, j2, by rw [hf j (hb j j2), j3]; exact h3⟩
  · rintro ⟨j, j1, j2, j3⟩
    have := hb j j2
    exact ⟨g j, hg j this, mpM_t.mpr ⟨j, j1, j2, rfl⟩, by rw [← hf j this]; exact j3⟩
theorem rnX_c {f g f' : Nat → Nat} {h h' K : Nat} {x : bk_X} (hx : rgX K x) (hg : ∀ i, i < K → g i < 8) (hf : ∀ i, i < K → f' i = f (g i)) (hK : K ≤ 8) : rnX f h (rnX g h' x) = rnX f' (h ||| mpM f h') x := by
  obtain ⟨x1, x2, x3, x4, x5⟩ := hx
  unfold rnX
  show (x.1, f (g x.2.1), (if x.1 = 8 then f (if x.1 = 8 then g x.2.2.1 else x.2.2.1) else (if x.1 = 8 then g x.2.2.1 else x.2.2.1)), h ||| mpM f (h' ||| mpM g x.2.2.2.1), _, _) = (x.1, f' x.2.1, (if x.1 = 8 then f' x.2.2.1 else x.2.2.1), (h ||| mpM f h') ||| mpM f' x.2.2.2.1, _, _)
  rw [mpM_or, mpM_c x4 hg hf hK, Nat.or_assoc, ← hf _ x2]
  by_cases q : x.1 = 8
  · rw [if_pos q] at x3
    rw [if_pos q, if_pos q, if_pos q, ← hf _ x3]
  · rw [if_neg q, if_neg q, if_neg q]
theorem rnX_id {x : bk_X} (h : x.2.2.2.1 < 256) : rnX (fun i => i) 0 x = x := by
  unfold rnX
  show (x.1, x.2.1, (if x.1 = 8 then x.2.2.1 else x.2.2.1), 0 ||| mpM (fun i => i) x.2.2.2.1, x.2.2.2.2.1, x.2.2.2.2.2) = x
  rw [mpM_id h, Nat.zero_or]
  by_cases q : x.1 = 8
  · rw [if_pos q]
  · rw [if_neg q]
theorem iv_me2 {b : Bool} {L : List bk_X} {x : bk_X} (h : x ∈ ivL b L) : ∃ y, y ∈ L ∧ (x = y ∨ x = ivX y) := by
  unfold ivL at h
  cases b with
  | false => exact ⟨x, h, Or.inl rfl⟩
  | true =>
    rw [if_pos rfl] at h
    obtain ⟨y, y1, y2⟩ := List.mem_map.mp h
    exact ⟨y, List.mem_reverse.mp y1, Or.inr y2.symm⟩
theorem rgX_iv {K : Nat} {x : bk_X} (h : rgX K x) : rgX K (ivX x) := by
  obtain ⟨h1, h2, h3, h4, h5⟩ := h
  refine ⟨?_, h2, ?_, h4, h5⟩
  · show ikN x.1 ≤ 8
    unfold ikN
    repeat' split
    all_goals omega
  · show if ikN x.1 = 8 then x.2.2.1 < K else x.2.2.1 = 0
    by_cases q : x.1 = 8
    · rw [if_pos q] at h3
      rw [if_pos ((ikN_8 _).mpr q)]
      exact h3
    · rw [if_neg q] at h3
      rw [if_neg (fun z => q ((ikN_8 _).mp z))]
      exact h3
/-- a USE -/
theorem ouL_u {f f' : Nat → Nat} {inv bk : Bool} {h l K : Nat} {m : Nat × Nat} {cs ws : List Nat} {L : List bk_X} (hL : ∀ x ∈ L, rgX K x) (hg : ∀ i, i < K → ws.getD i 0 < 8) (hf : ∀ i, i < K → f' i = f (ws.getD i 0)) (hK : K ≤ 8) : ouL f inv h m (usL (evU l bk cs ws) L) = ouL f' (inv != bk) (h ||| mpM f (mskL cs)) m L := by
  unfold ouL
  have e : usL (evU l bk cs ws) L = (ivL bk L).map (rnX (fun i => ws.getD i 0) (mskL cs)) := rfl
  rw [e, ivL_m (fun x => ivX_r _ _ x), ivL_2, List.map_map]
  refine List.map_congr_left (fun x hx => ?_)
  obtain ⟨y, y1, y2⟩ := iv_me2 hx
  have rx : rgX K x := by
    rcases y2 with z | z
    · rw [z]; exact hL y y1
    · rw [z]; exact rgX_iv (hL y y1)
  show adA m (rnX f h (rnX (fun i => ws.getD i 0) (mskL cs) x)) = _
  rw [rnX_c rx hg hf hK]
/-- what is asked -/
theorem ouL_k (f : Nat → Nat) (inv : Bool) (h : Nat) (m a : Nat × Nat) (B : List bk_X) : ouL f inv h m (B.map (adA a)) = ouL f inv h (m.1 ||| a.1, m.2 ||| a.2) B := by
  unfold ouL
  rw [ivL_m (fun x => ivX_a a x), List.map_map]
  refine List.map_congr_left (fun x _ => ?_)
  show (_, _, _, _, (x.2.2.2.2.1 ||| a.1) ||| m.1, (x.2.2.2.2.2 ||| a.2) ||| m.2) = (_, _, _, _, x.2.2.2.2.1 ||| (m.1 ||| a.1), x.2.2.2.2.2 ||| (m.2 ||| a.2))
  rw [Nat.or_assoc, Nat.or_comm a.1, Nat.or_assoc, Nat.or_comm a.2]
  rfl
/-- a GATE -/
theorem ouL_g {f : Nat → Nat} {inv bk : Bool} {h k : Nat} {m : Nat × Nat} {cs ws : List Nat} : ouL f inv h m [evX (0, 0) (evG k bk cs ws)] = [((if (inv != bk) = true then ikN k else k), f (ws.getD 0 0), (if k = 8 then f (ws.getD 1 0) else 0), h ||| mpM f (mskL cs), m.1, m.2)] := by
  have e : evX (0, 0) (evG k bk cs ws) = (if bk = true then ikN k else k, ws.getD 0 0, (if k = 8 then ws.getD 1 0 else 0), mskL cs, 0, 0) := rfl
  have ei : ivL inv [evX (0, 0) (evG k bk cs ws)] = [((if (inv != bk) = true then ikN k else k), ws.getD 0 0, (if k = 8 then ws.getD 1 0 else 0), mskL cs, 0, 0)] := by
    rw [e]
    unfold ivL ivX
    cases inv <;> cases bk
    · rfl
    · rfl
    · rfl
    · show [(ikN (ikN k), _)] = [(k, _)]
      rw [ikN_2]
  unfold ouL
  rw [ei]
  unfold adA rnX
  show [((if (inv != bk) = true then ikN k else k), f (ws.getD 0 0), (if (if (inv != bk) = true then ikN k else k) = 8 then f (if k = 8 then ws.getD 1 0 else 0) else (if k = 8 then ws.getD 1 0 else 0)), h ||| mpM f (mskL cs), 0 ||| m.1, 0 ||| m.2)] = _
  rw [Nat.zero_or, Nat.zero_or]
  have q8 : (if (inv != bk) = true then ikN k else k) = 8 ↔ k = 8 := by
    by_cases q : (inv != bk) = true
    · rw [if_pos q]
      exact ikN_8 k
    · rw [if_neg q]
  by_cases q : k = 8
  · rw [if_pos (q8.mpr q), if_pos q, if_pos q]
  · rw [if_neg (fun z => q (q8.mp z)), if_neg q, if_neg q]
theorem ouL_M {k w b : Nat} {m : Nat × Nat} : ouL (fun i => i) false 0 m [evX (0, 0) (evM k w b)] = [(k, w, b, 0, m.1, m.2)] := by
  have e : evX (0, 0) (evM k w b) = (k, w, b, 0, 0, 0) := rfl
  unfold ouL ivL
  rw [if_neg (by decide), e]
  show [adA m (rnX (fun i => i) 0 (k, w, b, 0, 0, 0))] = _
  rw [rnX_id (by show 0 < 256; decide)]
  show [(k, w, b, 0, 0 ||| m.1, 0 ||| m.2)] = _
  rw [Nat.zero_or, Nat.zero_or]
/-- OPS of a STATEMENT, laid -/
def ou1 (R : Nat → List bk_X) (f : Nat → Nat) (inv : Bool) (h : Nat) (m : Nat × Nat) (S : Ev × Tr) : List bk_X := ouL f inv h m (jtO R S.1 (jtF R S.2))
def ouF (R : Nat → List bk_X) (f : Nat → Nat) (inv : Bool) (h : Nat) (m : Nat × Nat) (L : Tr) : List bk_X := ouL f inv h m (jtF R L)
theorem ouF_f (R : Nat → List bk_X) (f : Nat → Nat) (h : Nat) (m : Nat × Nat) (S : Ev × Tr) (Ss : List (Ev × Tr)) : ouF R f false h m (flT (S :: Ss)) = ou1 R f false h m S ++ ouF R f false h m (flT Ss) := by
  unfold ouF ou1
  rw [jtF_f, ouL_af]
theorem ouF_b (R : Nat → List bk_X) (f : Nat → Nat) (h : Nat) (m : Nat × Nat) (S : Ev × Tr) (Ss : List (Ev × Tr)) : ouF R f true h m (flT (Ss ++ [S])) = ou1 R f true h m S ++ ouF R f true h m (flT Ss) := by
  unfold ouF ou1
  rw [jtF_p, jtF_1, ouL_at]
