/-! THE MEMORY'S MACHINE over the engine -/
def am_ad (lo : Nat) (ad : Nat → Nat) (k : Nat) : Nat := bif Nat.blt k 1000 then lo + k else ad (k - 1000)
theorem sr_ad {lo : Nat} {ad : Nat → Nat} {a : Nat} {bs : List Int32} (h : am_lit a = some bs) : am_ad lo ad a = ad (a - 1000) := by
  unfold am_lit at h
  split at h
  · rfl
  · rfl
  · rfl
  · rfl
  · cases h
theorem sr_ly (k : Nat) : (am_ly k).1 ≤ 22 := by
  rcases Nat.lt_or_ge k 208 with h | h
  · exact (by decide +kernel : ∀ k < 208, (am_ly k).1 ≤ 22) k h
  · have hb : Nat.blt k 208 = false := by
      cases hh : Nat.blt k 208 with
      | true => exact absurd (Nat.le_of_ble_eq_true hh) (by omega)
      | false => rfl
    unfold am_ly
    rw [hb]
    exact Nat.zero_le _
theorem sr_nb {x n : Nat} (h : ¬ x = n) : Nat.beq x n = false := by
  cases hh : Nat.beq x n with
  | true => exact absurd (Nat.eq_of_beq_eq_true hh) h
  | false => rfl
def am_c (lo : Nat) (ad : Nat → Nat) : am_V → Value
  | .inl a => .int a
  | .inr (.inl a) => .long a
  | .inr (.inr none) => .null
  | .inr (.inr (some k)) => .ref (am_ad lo ad k)
def am_cr (lo : Nat) (ad : Nat → Nat) : am_R → Option Value ⊕ String
  | .inl v => .inl (v.map (am_c lo ad))
  | .inr E => .inr E
def am_p (hp : mm_M → Nat → xm_H) (lo : Nat) (ad : Nat → Nat) (z : Nat) (q : am_Q) : xm_Q := fun r h => ∃ (r' : am_R) (M' : mm_M) (z' : Nat), r = am_cr lo ad r' ∧ h = hp M' z' ∧ ((∃ v, r' = .inl v) → z' = z) ∧ q r' M'
def am_Z (hp : mm_M → Nat → xm_H) (lo : Nat) (ad : Nat → Nat) (X : xm_X) (t : Bool) (z : Nat) : am_X := fun pc L st M => ∀ rc rs : Nat, (t = true → 1 ≤ rc ∧ 6 ≤ rs) → X pc (L.map (Option.map (am_c lo ad))) (st.map (am_c lo ad)) (hp M z) rc rs
theorem am_cg {X : xm_X} {pc : Nat} {L1 L2 : xm_L} {st : List Value} {h : xm_H} {rc rs : Nat} (e : L1 = L2) (q : X pc L1 st h rc rs) : X pc L2 st h rc rs := e ▸ q
theorem am_cgh {X : xm_X} {pc : Nat} {L : xm_L} {st : List Value} {h1 h2 : xm_H} {rc rs : Nat} (e : h1 = h2) (q : X pc L st h1 rc rs) : X pc L st h2 rc rs := e ▸ q
theorem am_K1 (lo : Nat) (ad : Nat → Nat) (a : Option am_V) (r : xm_L) : xm_clr (a.map (am_c lo ad) :: r) 1 = (am_kil a).map (am_c lo ad) :: r := by
  match a with
  | none => rfl
  | some (.inl _) => rfl
  | some (.inr (.inl _)) => rfl
  | some (.inr (.inr none)) => rfl
  | some (.inr (.inr (some _))) => rfl
theorem am_K2 (a : Option Value) (r : xm_L) (i : Nat) : xm_clr (a :: r) (i + 2) = a :: xm_clr r (i + 1) := by
  show (match (a :: r).getD (i + 1) none with
    | some (.long _) => (a :: r).set (i + 1) none
    | some (.double _) => (a :: r).set (i + 1) none
    | _ => a :: r) = a :: (match r.getD i none with
    | some (.long _) => r.set i none
    | some (.double _) => r.set i none
    | _ => r)
  rw [show (a :: r).getD (i + 1) none = r.getD i none from rfl]
  split
  · rfl
  · rfl
  · rfl
theorem am_S1 (lo : Nat) (ad : Nat → Nat) : ∀ (L : am_L) (x : Nat) (v : am_V), (am_s1 L x v).map (Option.map (am_c lo ad)) = xm_s1 (L.map (Option.map (am_c lo ad))) x (am_c lo ad v)
  | [], 0, v => rfl
  | [], x + 1, v => rfl
  | a :: r, 0, v => rfl
  | a :: r, 1, v => by
    have h := am_S1 lo ad r 0 v
    unfold xm_s1 at h ⊢
    simp only [am_s1, List.map_cons, am_K1, List.set_cons_succ, h]
    rfl
  | a :: r, i + 2, v => by
    have h := am_S1 lo ad r (i + 1) v
    unfold xm_s1 at h ⊢
    simp only [am_s1, List.map_cons, am_K2, List.set_cons_succ, h]
theorem am_S2 (lo : Nat) (ad : Nat → Nat) : ∀ (L : am_L) (x : Nat) (v : am_V), (am_s2 L x v).map (Option.map (am_c lo ad)) = xm_s2 (L.map (Option.map (am_c lo ad))) x (am_c lo ad v)
  | [], 0, v => rfl
  | [], x + 1, v => rfl
  | [a], 0, v => rfl
  | a :: b :: r, 0, v => rfl
  | a :: r, 1, v => by
    have h := am_S2 lo ad r 0 v
    unfold xm_s2 at h ⊢
    simp only [am_s2, List.map_cons, am_K1, List.set_cons_succ, h]
    rfl
  | a :: r, i + 2, v => by
    have h := am_S2 lo ad r (i + 1) v
    unfold xm_s2 at h ⊢
    simp only [am_s2, List.map_cons, am_K2, List.set_cons_succ, h]
theorem am_len {lo : Nat} {ad : Nat → Nat} {L : am_L} {x : Nat} (h : Nat.blt x L.length = true) : x < (L.map (Option.map (am_c lo ad))).length := by
  rw [List.length_map]
  exact Nat.le_of_ble_eq_true h
theorem am_kat (lo : Nat) (ad : Nat → Nat) : ∀ v : am_V, (am_c lo ad v).category = am_cat v
  | .inl _ => rfl
  | .inr (.inl _) => rfl
  | .inr (.inr none) => rfl
  | .inr (.inr (some _)) => rfl
theorem am_CS (lo : Nat) (ad : Nat → Nat) (r : List am_V) : ((r.map (am_c lo ad)).map fun v => v.category).sum = am_cs r := by
  unfold am_cs
  rw [List.map_map]
  congr 1
  exact List.map_congr_left fun v _ => am_kat lo ad v
theorem am_c8 {lo : Nat} {ad : Nat → Nat} {r : List am_V} (h : Nat.ble (am_cs r) 8 = true) : ((r.map (am_c lo ad)).map fun v => v.category).sum ≤ 8 := by
  rw [am_CS]
  exact Nat.le_of_ble_eq_true h
theorem am_lt {k : Nat} (h : ¬ (am_ly k).1 = 0) : k < 208 := by
  apply Decidable.byContradiction
  intro hk
  apply h
  have hb : Nat.blt k 208 = false := by
    cases hh : Nat.blt k 208 with
    | false => rfl
    | true => exact absurd (Nat.le_of_ble_eq_true hh) (by omega)
  unfold am_ly
  rw [hb]
  rfl
theorem am_adk {lo : Nat} {ad : Nat → Nat} {k : Nat} (h : k < 1000) : am_ad lo ad k = lo + k := by
  unfold am_ad
  rw [show Nat.blt k 1000 = true from Nat.ble_eq_true_of_le h]
  rfl
theorem am_lyb : ∀ k, k < 208 → ((am_ly k).2.2.all (fun c => Nat.blt c 1003)) = true := by decide +kernel
theorem am_fs_at (lo : Nat) (f : Nat → Int32) (g : Nat → Int64) : ∀ (ks : List Nat) (y0 y : Nat), (am_fs lo f g y0 ks)[y]? = (ks[y]?).map (fun c => am_fv lo c (f (y0 + y)) (g (y0 + y)))
  | [], y0, y => by simp [am_fs]
  | c :: r, y0, 0 => by simp [am_fs]
  | c :: r, y0, y + 1 => by
    simp only [am_fs, List.getElem?_cons_succ]
    rw [am_fs_at lo f g r (y0 + 1) y, show y0 + 1 + y = y0 + (y + 1) by omega]
theorem am_fs_len (lo : Nat) (f : Nat → Int32) (g : Nat → Int64) : ∀ (ks : List Nat) (y0 : Nat), (am_fs lo f g y0 ks).length = ks.length
  | [], _ => rfl
  | _ :: r, y0 => by simp only [am_fs, List.length_cons, am_fs_len lo f g r (y0 + 1)]
theorem am_fs_set (lo : Nat) (f f' : Nat → Int32) (g g' : Nat → Int64) (ks : List Nat) (y c : Nat) (v : Value) (hy : ks[y]? = some c) (hv : am_fv lo c (f' y) (g' y) = v) (hf : ∀ j, j ≠ y → f' j = f j) (hg : ∀ j, j ≠ y → g' j = g j) : (am_fs lo f g 0 ks).set y v = am_fs lo f' g' 0 ks := by
  apply List.ext_getElem?
  intro j
  rw [List.getElem?_set, am_fs_at, am_fs_at]
  by_cases hj : y = j
  · subst hj
    rw [if_pos rfl, if_pos (by rw [am_fs_len]; exact (List.getElem?_eq_some_iff.mp hy).1), hy]
    simp only [Option.map_some, Nat.zero_add, hv]
  · rw [if_neg hj, Nat.zero_add, hf j (Ne.symm hj), hg j (Ne.symm hj)]
section AMS
variable {ac : Nat → ClassId} {lo : Nat} {ad sa : Nat → Nat} {b L0 : Nat} {xs : Nat → Int32} {hp : mm_M → Nat → xm_H}
theorem am_at (H : mm_L ac lo hp) {k : Nat} (hk : ¬ (am_ly k).1 = 0) (M : mm_M) (z : Nat) : (hp M z).1 (am_ad lo ad k) = am_sh ac lo k (M.1 k) (M.2 k) := by
  rw [am_adk (Nat.lt_of_lt_of_le (am_lt hk) (by decide)), H.1, am_shk]
theorem am_obj (H : mm_L ac lo hp) {k x : Nat} (hk : (am_ly k).1 = x + 10) (f : Nat → Int32) (g : Nat → Int64) : am_sh ac lo k f g = some (.inr (x, am_fs lo f g 0 (am_ly k).2.2)) := by
  unfold am_sh
  split
  all_goals (rename_i h9; rw [h9] at hk; simp at hk)
  subst hk
  rw [h9]
/-- an array of ints of a class of arrays -/
def am_int (ac : Nat → ClassId) (lo : Nat) (ad : Nat → Nat) (hp : mm_M → Nat → xm_H) (k cA : Nat) : Prop :=
  (∀ M z, (hp M z).1 (am_ad lo ad k) = some (.inl (ac cA, (am_ly k).2.1, .inl (M.1 k)))) ∧ (∀ M z f, xm_up (hp M z) (am_ad lo ad k) (.inl (ac cA, (am_ly k).2.1, .inl f)) = hp (mm_i M k f) z) ∧ lo ≤ am_ad lo ad k
theorem am_int_of (H : mm_L ac lo hp) {k cA : Nat} (h0 : ¬ (am_ly k).1 = 0) (h : ∀ f g, am_sh ac lo k f g = some (.inl (ac cA, (am_ly k).2.1, .inl f))) : am_int ac lo ad hp k cA := by
  have hl : k < 1000 := Nat.lt_of_lt_of_le (am_lt h0) (by decide)
  refine ⟨fun M z => by rw [am_at H h0, h], fun M z f => ?_, by rw [am_adk hl]; exact Nat.le_add_right _ _⟩
  rw [am_adk hl]
  exact H.2.2.1 M z k f _ (by rw [← am_shk, h])
theorem am_1 (H : mm_L ac lo hp) {k : Nat} (hk : (am_ly k).1 = 1) : am_int ac lo ad hp k 0 := am_int_of H (by rw [hk]; decide) fun f g => by
  unfold am_sh
  split
  all_goals (rename_i h9; rw [h9] at hk; simp at hk)
  rw [h9]
theorem am_5 (H : mm_L ac lo hp) {k : Nat} (hk : (am_ly k).1 = 5) : am_int ac lo ad hp k 4 := am_int_of H (by rw [hk]; decide) fun f g => by
  unfold am_sh
  split
  all_goals (rename_i h9; rw [h9] at hk; simp at hk)
  rw [h9]
theorem am_3 (H : mm_L ac lo hp) {k : Nat} (hk : (am_ly k).1 = 3) : am_int ac lo ad hp k 2 := am_int_of H (by rw [hk]; decide) fun f g => by
  unfold am_sh
  split
  all_goals (rename_i h9; rw [h9] at hk; simp at hk)
  rw [h9]
theorem am_4 (H : mm_L ac lo hp) {k : Nat} (hk : (am_ly k).1 = 4) : am_int ac lo ad hp k 3 := am_int_of H (by rw [hk]; decide) fun f g => by
  unfold am_sh
  split
  all_goals (rename_i h9; rw [h9] at hk; simp at hk)
  rw [h9]
theorem am_34 (H : mm_L ac lo hp) {k x : Nat} (hb : (Nat.beq x 2 || Nat.beq x 3) = true) (hk : (am_ly k).1 = x + 1) : am_int ac lo ad hp k x := by
  rcases (Bool.or_eq_true _ _).mp hb with h | h
  · rw [Nat.eq_of_beq_eq_true h] at hk ⊢; exact am_3 H hk
  · rw [Nat.eq_of_beq_eq_true h] at hk ⊢; exact am_4 H hk
theorem am_2 (H : mm_L ac lo hp) {k : Nat} (hk : (am_ly k).1 = 2) (f : Nat → Int32) (g : Nat → Int64) : am_sh ac lo k f g = some (.inl (ac 1, (am_ly k).2.1, .inr (.inl g))) := by
  unfold am_sh
  split
  all_goals (rename_i h9; rw [h9] at hk; simp at hk)
  rw [h9]
theorem am_6 (H : mm_L ac lo hp) {k : Nat} (hk : (am_ly k).1 = 6) (f : Nat → Int32) (g : Nat → Int64) : am_sh ac lo k f g = some (.inl (ac 5, (am_ly k).2.1, .inr (.inr (.inr (.inr (va_up (va_up (va_up (fun _ => none) 0 (some (lo + (k + 1 + (f 0).toNatClampNeg)))) 1 (some (lo + (k + 1 + (f 1).toNatClampNeg)))) 2 (some (lo + (k + 1 + (f 2).toNatClampNeg))))))))) := by
  unfold am_sh
  split
  all_goals (rename_i h9; rw [h9] at hk; simp at hk)
  rw [h9]
variable {cs : xm_S} {cs' : am_C} {post : am_Q} {Y : am_X} {X : xm_X} {t : Bool} {z : Nat} {s : am_S} {rc rs : Nat} {M : mm_M} {st : List am_V} {L : am_L}
theorem am_nxe (h : am_G cs' post (am_Z hp lo ad X t z) (am_nx s)) (hr : t = true → 1 ≤ rc ∧ 6 ≤ rs) : X s.1 (s.2.1.map (Option.map (am_c lo ad))) (s.2.2.1.map (am_c lo ad)) (hp s.2.2.2 z) rc rs := by
  obtain ⟨pc, L, st, M⟩ := s
  exact h rc rs hr
theorem am_obe {c : Prop} (h : am_G cs' post (am_Z hp lo ad X t z) (am_ob c s)) (hr : t = true → 1 ≤ rc ∧ 6 ≤ rs) : c ∧ X s.1 (s.2.1.map (Option.map (am_c lo ad))) (s.2.2.1.map (am_c lo ad)) (hp s.2.2.2 z) rc rs := by
  obtain ⟨pc, L, st, M⟩ := s
  exact ⟨h.1, h.2 rc rs hr⟩
theorem am_bif {c : Bool} {o : am_O} (h : am_G cs' post Y (bif c then o else am_no)) : c = true ∧ am_G cs' post Y o := by
  cases c with
  | true => exact ⟨rfl, h⟩
  | false => exact h.elim
theorem am_i_e {k : Int32 → List am_V → am_O} (h : am_G cs' post Y (am_i st k)) : ∃ a r, st = .inl a :: r ∧ am_G cs' post Y (k a r) := by
  unfold am_i at h
  split at h
  · exact ⟨_, _, rfl, h⟩
  · exact h.elim
theorem am_ii_e {k : Int32 → Int32 → List am_V → am_O} (h : am_G cs' post Y (am_ii st k)) : ∃ a b r, st = .inl b :: .inl a :: r ∧ am_G cs' post Y (k a b r) := by
  unfold am_ii at h
  split at h
  · exact ⟨_, _, _, rfl, h⟩
  · exact h.elim
theorem am_l_e {k : Int64 → List am_V → am_O} (h : am_G cs' post Y (am_l st k)) : ∃ a r, st = .inr (.inl a) :: r ∧ am_G cs' post Y (k a r) := by
  unfold am_l at h
  split at h
  · exact ⟨_, _, rfl, h⟩
  · exact h.elim
theorem am_ll_e {k : Int64 → Int64 → List am_V → am_O} (h : am_G cs' post Y (am_ll st k)) : ∃ a b r, st = .inr (.inl b) :: .inr (.inl a) :: r ∧ am_G cs' post Y (k a b r) := by
  unfold am_ll at h
  split at h
  · exact ⟨_, _, _, rfl, h⟩
  · exact h.elim
theorem am_li_e {k : Int64 → Int32 → List am_V → am_O} (h : am_G cs' post Y (am_li st k)) : ∃ a b r, st = .inl b :: .inr (.inl a) :: r ∧ am_G cs' post Y (k a b r) := by
  unfold am_li at h
  split at h
  · exact ⟨_, _, _, rfl, h⟩
  · exact h.elim
theorem am_a_e {k : Nat → List am_V → am_O} (h : am_G cs' post Y (am_a st k)) : ∃ a r, st = .inr (.inr (some a)) :: r ∧ am_G cs' post Y (k a r) := by
  unfold am_a at h
  split at h
  · exact ⟨_, _, rfl, h⟩
  · exact h.elim
theorem am_ai_e {k : Nat → Int32 → List am_V → am_O} (h : am_G cs' post Y (am_ai st k)) : ∃ a i r, st = .inl i :: .inr (.inr (some a)) :: r ∧ am_G cs' post Y (k a i r) := by
  unfold am_ai at h
  split at h
  · exact ⟨_, _, _, rfl, h⟩
  · exact h.elim
theorem am_aii_e {k : Nat → Int32 → Int32 → List am_V → am_O} (h : am_G cs' post Y (am_aii st k)) : ∃ a i v r, st = .inl v :: .inl i :: .inr (.inr (some a)) :: r ∧ am_G cs' post Y (k a i v r) := by
  unfold am_aii at h
  split at h
  · exact ⟨_, _, _, _, rfl, h⟩
  · exact h.elim
theorem am_ail_e {k : Nat → Int32 → Int64 → List am_V → am_O} (h : am_G cs' post Y (am_ail st k)) : ∃ a i v r, st = .inr (.inl v) :: .inl i :: .inr (.inr (some a)) :: r ∧ am_G cs' post Y (k a i v r) := by
  unfold am_ail at h
  split at h
  · exact ⟨_, _, _, _, rfl, h⟩
  · exact h.elim
theorem am_aia_e {k : Nat → Int32 → Nat → List am_V → am_O} (h : am_G cs' post Y (am_aia st k)) : ∃ a i u r, st = .inr (.inr (some u)) :: .inl i :: .inr (.inr (some a)) :: r ∧ am_G cs' post Y (k a i u r) := by
  unfold am_aia at h
  split at h
  · exact ⟨_, _, _, _, rfl, h⟩
  · exact h.elim
theorem am_av_e {k : Nat → am_V → List am_V → am_O} (h : am_G cs' post Y (am_av st k)) : ∃ a v r, st = v :: .inr (.inr (some a)) :: r ∧ am_G cs' post Y (k a v r) := by
  unfold am_av at h
  split at h
  · exact ⟨_, _, _, rfl, h⟩
  · exact h.elim
theorem am_cp_e {k : Nat → Int32 → Nat → Int32 → Int32 → List am_V → am_O} (h : am_G cs' post Y (am_cp st k)) : ∃ sa sp da dp n r, st = .inl n :: .inl dp :: .inr (.inr (some da)) :: .inl sp :: .inr (.inr (some sa)) :: r ∧ am_G cs' post Y (k sa sp da dp n r) := by
  unfold am_cp at h
  split at h
  · exact ⟨_, _, _, _, _, _, rfl, h⟩
  · exact h.elim
theorem am_one_e {k : am_V → List am_V → am_O} (h : am_G cs' post Y (am_one st k)) : ∃ v r, st = v :: r ∧ am_cat v = 1 ∧ am_G cs' post Y (k v r) := by
  unfold am_one at h
  split at h
  · exact h.elim
  · rename_i v r h9
    refine ⟨v, r, rfl, ?_, h⟩
    match v, h9 with
    | .inl _, _ => rfl
    | .inr (.inl a), h9 => exact (h9 a rfl).elim
    | .inr (.inr _), _ => rfl
  · exact h.elim
theorem am_k1 {v : am_V} (h : am_cat v = 1) : (am_c lo ad v).category = 1 := (am_kat lo ad v).trans h
theorem am_Li_e {x : Nat} {k : Int32 → am_O} (h : am_G cs' post Y (am_Li L x k)) : ∃ a, L[x]? = some (some (.inl a)) ∧ am_G cs' post Y (k a) := by
  unfold am_Li at h
  split at h
  · rename_i h9; exact ⟨_, h9, h⟩
  · exact h.elim
theorem am_Ll_e {x : Nat} {k : Int64 → am_O} (h : am_G cs' post Y (am_Ll L x k)) : ∃ a, L[x]? = some (some (.inr (.inl a))) ∧ am_G cs' post Y (k a) := by
  unfold am_Ll at h
  split at h
  · rename_i h9; exact ⟨_, h9, h⟩
  · exact h.elim
theorem am_La_e {x : Nat} {k : Option Nat → am_O} (h : am_G cs' post Y (am_La L x k)) : ∃ a, L[x]? = some (some (.inr (.inr a))) ∧ am_G cs' post Y (k a) := by
  unfold am_La at h
  split at h
  · rename_i h9; exact ⟨_, h9, h⟩
  · exact h.elim
theorem am_LI {x : Nat} {a : Int32} {k : Int32 → Prop} (ha : L[x]? = some (some (.inl a))) : xm_Li (L.map (Option.map (am_c lo ad))) x k ↔ k a := by
  unfold xm_Li
  rw [List.getElem?_map, ha]
  exact Iff.rfl
theorem am_LL {x : Nat} {a : Int64} {k : Int64 → Prop} (ha : L[x]? = some (some (.inr (.inl a)))) : xm_Ll (L.map (Option.map (am_c lo ad))) x k ↔ k a := by
  unfold xm_Ll
  rw [List.getElem?_map, ha]
  exact Iff.rfl
theorem am_LN {x : Nat} {kn : Prop} {k : Nat → Prop} (ha : L[x]? = some (some (.inr (.inr none)))) : xm_La (L.map (Option.map (am_c lo ad))) x kn k ↔ kn := by
  unfold xm_La
  rw [List.getElem?_map, ha]
  exact Iff.rfl
theorem am_LA {x a : Nat} {kn : Prop} {k : Nat → Prop} (ha : L[x]? = some (some (.inr (.inr (some a))))) : xm_La (L.map (Option.map (am_c lo ad))) x kn k ↔ k (am_ad lo ad a) := by
  unfold xm_La
  rw [List.getElem?_map, ha]
  exact Iff.rfl
theorem am_gf_e (H : mm_L ac lo hp) {k x y : Nat} {K : am_V → am_O} (h : am_G cs' post Y (am_gf M k x y K)) : ∃ u, (am_ly k).1 = x + 10 ∧ (am_fs lo (M.1 k) (M.2 k) 0 (am_ly k).2.2)[y]? = some (am_c lo ad u) ∧ am_G cs' post Y (K u) := by
  obtain ⟨hb, h⟩ := am_bif h
  have hk := Nat.eq_of_beq_eq_true hb
  have hl : k < 208 := am_lt (by rw [hk]; omega)
  have hall := am_lyb k hl
  rw [am_fs_at]
  split at h
  · rename_i h9; exact ⟨_, hk, by rw [h9]; simp only [Option.map_some, Nat.zero_add]; rfl, h⟩
  · rename_i h9; exact ⟨_, hk, by rw [h9]; simp only [Option.map_some, Nat.zero_add]; rfl, h⟩
  · rename_i h9
    rw [h9]
    cases hz : (M.1 k y == 0) with
    | true =>
      rw [hz] at h
      exact ⟨_, hk, by simp only [Option.map_some, Nat.zero_add, am_fv, hz]; rfl, h⟩
    | false =>
      rw [hz] at h
      exact ⟨.inr (.inr (some 1)), hk, by simp only [Option.map_some, Nat.zero_add, am_fv, hz]; rfl, h⟩
  · rename_i c h9
    refine ⟨_, hk, ?_, h⟩
    rw [h9]
    have hc := List.all_eq_true.mp hall (c + 3) (List.mem_of_getElem? h9)
    simp only [Option.map_some, am_fv, am_c]
    rw [am_adk (by have := Nat.le_of_ble_eq_true hc; omega)]
  · exact h.elim
theorem am_GF (H : mm_L ac lo hp) {k x y : Nat} {u : am_V} {K : Value → Prop} (hk : (am_ly k).1 = x + 10) (hu : (am_fs lo (M.1 k) (M.2 k) 0 (am_ly k).2.2)[y]? = some (am_c lo ad u)) (h : K (am_c lo ad u)) : xm_O (hp M z) x (am_ad lo ad k) (fun fs => match fs[y]? with
      | some u => K u
      | none => False) := by
  unfold xm_O
  rw [am_at H (by rw [hk]; omega), am_obj H hk]
  refine ⟨rfl, ?_⟩
  dsimp only
  rw [hu]
  exact h
theorem am_pf_e (H : mm_L ac lo hp) {k x y : Nat} {u : am_V} {K : mm_M → am_S} (h : am_G cs' post Y (am_pf M k x y u K)) : ∃ M9, (am_ly k).1 = x + 10 ∧ xm_up (hp M z) (am_ad lo ad k) (.inr (x, (am_fs lo (M.1 k) (M.2 k) 0 (am_ly k).2.2).set y (am_c lo ad u))) = hp M9 z ∧ xm_fit (xp_fty x y) (am_c lo ad u) ∧ y < (am_ly k).2.2.length ∧ am_G cs' post Y (am_nx (K M9)) := by
  have h2 := am_bif h
  clear h
  obtain ⟨hb, h⟩ := h2
  have hk := Nat.eq_of_beq_eq_true hb
  have h0 : ¬ (am_ly k).1 = 0 := by rw [hk]; omega
  have hl : k < 1000 := Nat.lt_of_lt_of_le (am_lt h0) (by decide)
  split at h
  · rename_i h9
    have hy := (List.getElem?_eq_some_iff.mp h9).1
    split at h
    · rename_i a
      have hM : xm_up (hp M z) (am_ad lo ad k) (.inr (x, (am_fs lo (M.1 k) (M.2 k) 0 (am_ly k).2.2).set y (am_c lo ad (.inl a)))) = hp (mm_i M k (upd (M.1 k) y a)) z := by
        rw [am_adk hl]
        refine H.2.2.1 M z k _ _ ?_
        rw [← am_shk, am_obj H hk, am_fs_set lo (M.1 k) (upd (M.1 k) y a) (M.2 k) (M.2 k) _ y 0 (am_c lo ad (.inl a)) h9 (by simp [am_fv, upd, am_c]) (fun j hj => if_neg hj) (fun _ _ => rfl)]
      split at h
      · rename_i hty
        exact ⟨_, hk, hM, by rw [hty]; exact ⟨rfl, rfl⟩, hy, h⟩
      · exact ⟨_, hk, hM, h.1, hy, h.2⟩
    · exact h.elim
  · rename_i h9
    have hy := (List.getElem?_eq_some_iff.mp h9).1
    split at h
    · rename_i a
      have hM : xm_up (hp M z) (am_ad lo ad k) (.inr (x, (am_fs lo (M.1 k) (M.2 k) 0 (am_ly k).2.2).set y (am_c lo ad (.inr (.inl a))))) = hp (mm_l M k (vp_updL (M.2 k) y a)) z := by
        rw [am_adk hl]
        refine H.2.2.2.1 M z k _ _ ?_
        rw [← am_shk, am_obj H hk, am_fs_set lo (M.1 k) (M.1 k) (M.2 k) (vp_updL (M.2 k) y a) _ y 1 (am_c lo ad (.inr (.inl a))) h9 (by simp [am_fv, vp_updL, am_c]) (fun _ _ => rfl) (fun j hj => if_neg hj)]
      split at h
      · rename_i hty
        exact ⟨_, hk, hM, by rw [hty]; exact ⟨rfl, rfl⟩, hy, h⟩
      · exact h.elim
    · exact h.elim
  · rename_i h9
    have hy := (List.getElem?_eq_some_iff.mp h9).1
    split at h
    · have hM : xm_up (hp M z) (am_ad lo ad k) (.inr (x, (am_fs lo (M.1 k) (M.2 k) 0 (am_ly k).2.2).set y (am_c lo ad (.inr (.inr (some 1)))))) = hp (mm_i M k (upd (M.1 k) y 1)) z := by
        rw [am_adk hl]
        refine H.2.2.1 M z k _ _ ?_
        rw [← am_shk, am_obj H hk, am_fs_set lo (M.1 k) (upd (M.1 k) y 1) (M.2 k) (M.2 k) _ y 2 (am_c lo ad (.inr (.inr (some 1)))) h9 (by simp [am_fv, upd, am_c, am_ad]; rfl) (fun j hj => if_neg hj) (fun _ _ => rfl)]
      exact ⟨_, hk, hM, h.1 _, hy, h.2⟩
    · exact h.elim
  · exact h.elim
theorem am_PF (H : mm_L ac lo hp) {k x y : Nat} {u : am_V} {M9 : mm_M} {K : xm_H → Prop} (hk : (am_ly k).1 = x + 10) (hM : xm_up (hp M z) (am_ad lo ad k) (.inr (x, (am_fs lo (M.1 k) (M.2 k) 0 (am_ly k).2.2).set y (am_c lo ad u))) = hp M9 z) (hf : xm_fit (xp_fty x y) (am_c lo ad u)) (hy : y < (am_ly k).2.2.length) (h : K (hp M9 z)) : xm_O (hp M z) x (am_ad lo ad k) (fun fs => lo ≤ am_ad lo ad k ∧ y < fs.length ∧ xm_fit (xp_fty x y) (am_c lo ad u) ∧ K (xm_up (hp M z) (am_ad lo ad k) (.inr (x, fs.set y (am_c lo ad u))))) := by
  have h0 : ¬ (am_ly k).1 = 0 := by rw [hk]; omega
  have hl : k < 1000 := Nat.lt_of_lt_of_le (am_lt h0) (by decide)
  unfold xm_O
  rw [am_at H h0, am_obj H hk]
  refine ⟨rfl, by rw [am_adk hl]; exact Nat.le_add_right _ _, by rw [am_fs_len]; exact hy, hf, ?_⟩
  rw [hM]
  exact h
theorem am_ar_e {c k : Nat} {K : Nat → am_O} (h : am_G cs' post Y (am_ar c k K)) : (am_ly k).1 = c ∧ am_G cs' post Y (K (am_ly k).2.1) := by
  obtain ⟨hb, h⟩ := am_bif h
  exact ⟨Nat.eq_of_beq_eq_true hb, h⟩
theorem am_AIL {k cA : Nat} {j : Int32} {K : Int32 → Prop} (hi : am_int ac lo ad hp k cA) (h : vp_in j (am_ly k).2.1 ∧ K (M.1 k j.toNatClampNeg)) : xm_Ai (hp M z) (ac cA) (am_ad lo ad k) (fun n f => vp_in j n ∧ K (f j.toNatClampNeg)) := by
  unfold xm_Ai
  rw [hi.1]
  exact ⟨rfl, h⟩
theorem am_AIS {k cA : Nat} {j u : Int32} {K : xm_H → Prop} (hi : am_int ac lo ad hp k cA) (hj : vp_in j (am_ly k).2.1) (h : K (hp (mm_i M k (upd (M.1 k) j.toNatClampNeg u)) z)) : xm_Ai (hp M z) (ac cA) (am_ad lo ad k) (fun n f => vp_in j n ∧ lo ≤ am_ad lo ad k ∧ K (xm_up (hp M z) (am_ad lo ad k) (.inl (ac cA, n, .inl (upd f j.toNatClampNeg u))))) := by
  unfold xm_Ai
  rw [hi.1]
  refine ⟨rfl, hj, hi.2.2, ?_⟩
  rw [hi.2.1]
  exact h
theorem am_ALL (H : mm_L ac lo hp) {k : Nat} {j : Int32} {K : Int64 → Prop} (hk : (am_ly k).1 = 2) (h : vp_in j (am_ly k).2.1 ∧ K (M.2 k j.toNatClampNeg)) : xm_Al (hp M z) (ac 1) (am_ad lo ad k) (fun n f => vp_in j n ∧ K (f j.toNatClampNeg)) := by
  unfold xm_Al
  rw [am_at H (by rw [hk]; decide), am_2 H hk]
  exact ⟨rfl, h⟩
theorem am_ALS (H : mm_L ac lo hp) {k : Nat} {j : Int32} {u : Int64} {K : xm_H → Prop} (hk : (am_ly k).1 = 2) (hj : vp_in j (am_ly k).2.1) (h : K (hp (mm_l M k (vp_updL (M.2 k) j.toNatClampNeg u)) z)) : xm_Al (hp M z) (ac 1) (am_ad lo ad k) (fun n f => vp_in j n ∧ lo ≤ am_ad lo ad k ∧ K (xm_up (hp M z) (am_ad lo ad k) (.inl (ac 1, n, .inr (.inl (vp_updL f j.toNatClampNeg u)))))) := by
  have h0 : ¬ (am_ly k).1 = 0 := by rw [hk]; decide
  have hl : k < 1000 := Nat.lt_of_lt_of_le (am_lt h0) (by decide)
  unfold xm_Al
  rw [am_at H h0, am_2 H hk]
  refine ⟨rfl, hj, by rw [am_adk hl]; exact Nat.le_add_right _ _, ?_⟩
  rw [am_adk hl, H.2.2.2.1 M z k (vp_updL (M.2 k) j.toNatClampNeg u) _ (by rw [← am_shk, am_2 H hk])]
  exact h
theorem am_in3 {j : Int32} (h : vp_in j 3) : j.toNatClampNeg = 0 ∨ j.toNatClampNeg = 1 ∨ j.toNatClampNeg = 2 := by
  have : ¬ 3 ≤ j.toNatClampNeg := fun q => h (Or.inr q)
  omega
theorem am_AAL (H : mm_L ac lo hp) {k : Nat} {j : Int32} {K : Value → Prop} (h3 : (am_ly k).2.1 = 3) (hk : (am_ly k).1 = 6) (hm : (M.1 k j.toNatClampNeg).toNatClampNeg < 3) (hj : vp_in j 3) (h : K (.ref (am_ad lo ad (k + 1 + (M.1 k j.toNatClampNeg).toNatClampNeg)))) : xm_Aq (hp M z) (ac 5) (am_ad lo ad k) (fun n f => vp_in j n ∧ K (va_rf (f j.toNatClampNeg))) := by
  unfold xm_Aq
  rw [am_at H (by rw [hk]; decide), am_6 H hk]
  rw [h3]
  refine ⟨rfl, hj, ?_⟩
  rw [am_adk (by have := am_lt (k := k) (by rw [hk]; decide); omega)] at h
  rcases am_in3 hj with e | e | e
  · rw [e] at h ⊢; exact h
  · rw [e] at h ⊢; exact h
  · rw [e] at h ⊢; exact h

theorem am_sa_e {k : Nat} {K : Nat → (Nat → Int32) → am_O} (sc : Nat × Nat × (Nat → Int32)) (h : am_G cs' post Y (am_sa k K)) : ∃ (i n : Nat) (f : Nat → Int32), (xp_ro ad sc)[i]? = some (am_ad lo ad k, n, f) ∧ am_G cs' post Y (K n f) := by
  unfold am_sa at h
  split at h
  · exact ⟨1, _, _, rfl, h⟩
  · exact ⟨2, _, _, rfl, h⟩
  · exact ⟨3, _, _, rfl, h⟩
  · exact ⟨4, _, _, rfl, h⟩
  · exact ⟨5, _, _, rfl, h⟩
  · exact ⟨6, _, _, rfl, h⟩
  · exact ⟨7, _, _, rfl, h⟩
  · exact h.elim
theorem am_call_e {x : Nat} {as : List am_V} {pc : Nat} (hcs : ∀ x as M q, cs' x as M q → ∀ z, cs x (as.map (am_c lo ad)) (hp M z) 0 0 (am_p hp lo ad z q)) (h : am_G cs' post (am_Z hp lo ad X t z) (am_cl x as (pc, L, st, M))) (h8 : Nat.ble (am_cs st) 8 = true) (hr : t = true → 1 ≤ rc ∧ 6 ≤ rs) (KX : String → xm_H → Nat → Nat → Prop) : xm_call cs x (as.map (am_c lo ad)) (st.map (am_c lo ad)) (hp M z) rc rs (fun st' h' rc' rs' => X pc (L.map (Option.map (am_c lo ad))) st' h' rc' rs') KX := by
  obtain ⟨q, hq, hk⟩ := h
  refine ⟨am_c8 h8, 0, 0, am_p hp lo ad z q, Nat.zero_le _, Nat.zero_le _, hcs x as M q hq z, fun v h' hv => ?_, fun E h' hv => ?_⟩
  · obtain ⟨r', M', z', e1, e2, e3, e4⟩ := hv
    obtain ⟨v', rfl, hx⟩ := hk r' M' e4
    have ez : z' = z := e3 ⟨v', rfl⟩
    subst ez
    subst e2
    have e1 : Sum.inl v = Sum.inl (v'.map (am_c lo ad)) := e1
    cases e1
    have hx' := hx rc rs hr
    cases v' with
    | none => exact hx'
    | some v' => exact hx'
  · obtain ⟨r', M', z', e1, e2, e3, e4⟩ := hv
    obtain ⟨v', rfl, hx⟩ := hk r' M' e4
    cases e1
theorem am_bT {c : Bool} {o o' : am_O} (hc : c = true) (h : am_G cs' post Y (bif c then o else o')) : am_G cs' post Y o := by
  subst hc
  exact h
theorem am_bF {c : Bool} {o o' : am_O} (hc : c = false) (h : am_G cs' post Y (bif c then o else o')) : am_G cs' post Y o' := by
  subst hc
  exact h
theorem am_w1 : ((-1 : Int32) == -1) = true := by decide
theorem am_w {w k : Int32} (h : ¬ w = k) : (w == k) = false := by
  simp [h]
set_option maxHeartbeats 8000000 in
theorem am_step (H : mm_L ac lo hp) (hcs : ∀ x as M q, cs' x as M q → ∀ z, cs x (as.map (am_c lo ad)) (hp M z) 0 0 (am_p hp lo ad z q)) {d : Nat} (hst : 4 ≤ d → ∀ (a : Nat) (bs : List Int32), am_lit a = some bs → (∃ (k : Nat) (q : sr_Q), (xp_li ad)[k]? = some q ∧ q.2.2.2.1 = ad (a - 1000)) ∧ ∀ (j : Int32) (h : xm_H), (vp_in j bs.length → cs 0 [.ref (ad (a - 1000)), .int j] h 0 0 (xq1 (.int (am_chr bs j)) h)) ∧ cs 4 [.ref (ad (a - 1000)), .int j] h 0 0 (xq1 (.int (am_ixF j bs 0)) h)) {rt : Option FieldType} {tb : Nat → Option xm_I} {pc : Nat} (h : am_G cs' post (am_Z hp lo ad X t z) (am_st d t rt (tb pc) pc L st M)) (hr : t = true → 1 ≤ rc ∧ 6 ≤ rs) : xm_G ac lo xp_fty xp_dfl xp.2.2.2.2.2.2.1 (xp_sv ad sa (b, L0, xs)) d [] cs tb rt (am_p hp lo ad z post) X pc (L.map (Option.map (am_c lo ad))) (st.map (am_c lo ad)) (hp M z) rc rs := by
  unfold xm_G xm_F
  cases hq : tb pc with
  | none => rw [hq] at h; exact False.elim h
  | some q =>
    obtain ⟨i, x, y, w, v, ts⟩ := q
    rw [hq] at h
    unfold am_st at h
    cases i with
    | iconst n0 =>
      exact am_nxe h hr
    | bipush n0 =>
      exact am_nxe h hr
    | sipush n0 =>
      exact am_nxe h hr
    | ldc n0 =>
      by_cases hx1 : x = 1
      · subst hx1
        obtain ⟨hb, h⟩ := am_bif (am_bT rfl (show am_G cs' post (am_Z hp lo ad X t z) (bif Nat.beq 1 1 then _ else _) from h))
        have hy := Nat.le_of_ble_eq_true hb
        have h := am_nxe h hr
        rcases (by omega : y = 0 ∨ y = 1 ∨ y = 2 ∨ y = 3) with e | e | e | e <;> subst e <;> exact h
      · have hx0 : Nat.beq x 1 = false := by
          cases hh : Nat.beq x 1 with
          | true => exact absurd (Nat.eq_of_beq_eq_true hh) hx1
          | false => rfl
        have h := am_nxe (am_bF hx0 h) hr
        simp only [if_neg hx1]
        exact h
    | ldc_w n0 =>
      exact am_nxe h hr
    | lconst n0 =>
      exact am_nxe h hr
    | ldc2_w n0 =>
      exact am_nxe h hr
    | aconst_null =>
      exact am_nxe h hr
    | iload_n n0 =>
      obtain ⟨a, ha, h⟩ := am_Li_e h
      exact (am_LI ha).mpr (am_nxe h hr)
    | iload n0 =>
      obtain ⟨a, ha, h⟩ := am_Li_e h
      exact (am_LI ha).mpr (am_nxe h hr)
    | lload_n n0 =>
      obtain ⟨a, ha, h⟩ := am_Ll_e h
      exact (am_LL ha).mpr (am_nxe h hr)
    | lload n0 =>
      obtain ⟨a, ha, h⟩ := am_Ll_e h
      exact (am_LL ha).mpr (am_nxe h hr)
    | aload_n n0 =>
      obtain ⟨a, ha, h⟩ := am_La_e h
      cases a with
      | none => exact (am_LN ha).mpr (am_nxe h hr)
      | some a => exact (am_LA ha).mpr (am_nxe h hr)
    | aload n0 =>
      obtain ⟨a, ha, h⟩ := am_La_e h
      cases a with
      | none => exact (am_LN ha).mpr (am_nxe h hr)
      | some a => exact (am_LA ha).mpr (am_nxe h hr)
    | istore_n n0 =>
      obtain ⟨a, r, e9, h9⟩ := am_i_e h
      clear h
      subst e9
      have h := h9
      clear h9
      obtain ⟨hb, h⟩ := am_bif h
      exact ⟨am_len hb, am_cg (am_S1 lo ad L x _) (am_nxe h hr)⟩
    | istore n0 =>
      obtain ⟨a, r, e9, h9⟩ := am_i_e h
      clear h
      subst e9
      have h := h9
      clear h9
      obtain ⟨hb, h⟩ := am_bif h
      exact ⟨am_len hb, am_cg (am_S1 lo ad L x _) (am_nxe h hr)⟩
    | lstore_n n0 =>
      obtain ⟨a, r, e9, h9⟩ := am_l_e h
      clear h
      subst e9
      have h := h9
      clear h9
      obtain ⟨hb, h⟩ := am_bif h
      exact ⟨am_len hb, am_cg (am_S2 lo ad L x _) (am_nxe h hr)⟩
    | lstore n0 =>
      obtain ⟨a, r, e9, h9⟩ := am_l_e h
      clear h
      subst e9
      have h := h9
      clear h9
      obtain ⟨hb, h⟩ := am_bif h
      exact ⟨am_len hb, am_cg (am_S2 lo ad L x _) (am_nxe h hr)⟩
    | astore_n n0 =>
      obtain ⟨a, r, e9, h9⟩ := am_a_e h
      clear h
      subst e9
      have h := h9
      clear h9
      obtain ⟨hb, h⟩ := am_bif h
      exact ⟨am_len hb, am_cg (am_S1 lo ad L x _) (am_nxe h hr)⟩
    | astore n0 =>
      obtain ⟨a, r, e9, h9⟩ := am_a_e h
      clear h
      subst e9
      have h := h9
      clear h9
      obtain ⟨hb, h⟩ := am_bif h
      exact ⟨am_len hb, am_cg (am_S1 lo ad L x _) (am_nxe h hr)⟩
    | iinc n0 n1 =>
      obtain ⟨a, ha, h⟩ := am_Li_e h
      obtain ⟨hb, h⟩ := am_bif h
      exact (am_LI ha).mpr ⟨am_len hb, am_cg (am_S1 lo ad L x _) (am_nxe h hr)⟩
    | iadd =>
      obtain ⟨a, b, r, e9, h9⟩ := am_ii_e h
      clear h
      subst e9
      have h := h9
      clear h9
      exact am_nxe h hr
    | isub =>
      obtain ⟨a, b, r, e9, h9⟩ := am_ii_e h
      clear h
      subst e9
      have h := h9
      clear h9
      exact am_nxe h hr
    | imul =>
      obtain ⟨a, b, r, e9, h9⟩ := am_ii_e h
      clear h
      subst e9
      have h := h9
      clear h9
      exact am_nxe h hr
    | iand =>
      obtain ⟨a, b, r, e9, h9⟩ := am_ii_e h
      clear h
      subst e9
      have h := h9
      clear h9
      exact am_nxe h hr
    | ior =>
      obtain ⟨a, b, r, e9, h9⟩ := am_ii_e h
      clear h
      subst e9
      have h := h9
      clear h9
      exact am_nxe h hr
    | ixor =>
      obtain ⟨a, b, r, e9, h9⟩ := am_ii_e h
      clear h
      subst e9
      have h := h9
      clear h9
      exact am_nxe h hr
    | ishl =>
      obtain ⟨a, b, r, e9, h9⟩ := am_ii_e h
      clear h
      subst e9
      have h := h9
      clear h9
      exact am_nxe h hr
    | ishr =>
      obtain ⟨a, b, r, e9, h9⟩ := am_ii_e h
      clear h
      subst e9
      have h := h9
      clear h9
      exact am_nxe h hr
    | iushr =>
      obtain ⟨a, b, r, e9, h9⟩ := am_ii_e h
      clear h
      subst e9
      have h := h9
      clear h9
      exact am_nxe h hr
    | idiv =>
      obtain ⟨a, b, r, e9, h9⟩ := am_ii_e h
      clear h
      subst e9
      have h := h9
      clear h9
      exact am_obe h hr
    | irem =>
      obtain ⟨a, b, r, e9, h9⟩ := am_ii_e h
      clear h
      subst e9
      have h := h9
      clear h9
      exact am_obe h hr
    | ineg =>
      obtain ⟨a, r, e9, h9⟩ := am_i_e h
      clear h
      subst e9
      have h := h9
      clear h9
      exact am_nxe h hr
    | ladd =>
      obtain ⟨a, b, r, e9, h9⟩ := am_ll_e h
      clear h
      subst e9
      have h := h9
      clear h9
      exact am_nxe h hr
    | lsub =>
      obtain ⟨a, b, r, e9, h9⟩ := am_ll_e h
      clear h
      subst e9
      have h := h9
      clear h9
      exact am_nxe h hr
    | lmul =>
      obtain ⟨a, b, r, e9, h9⟩ := am_ll_e h
      clear h
      subst e9
      have h := h9
      clear h9
      exact am_nxe h hr
    | land =>
      obtain ⟨a, b, r, e9, h9⟩ := am_ll_e h
      clear h
      subst e9
      have h := h9
      clear h9
      exact am_nxe h hr
    | lor =>
      obtain ⟨a, b, r, e9, h9⟩ := am_ll_e h
      clear h
      subst e9
      have h := h9
      clear h9
      exact am_nxe h hr
    | lxor =>
      obtain ⟨a, b, r, e9, h9⟩ := am_ll_e h
      clear h
      subst e9
      have h := h9
      clear h9
      exact am_nxe h hr
    | ldiv =>
      obtain ⟨a, b, r, e9, h9⟩ := am_ll_e h
      clear h
      subst e9
      have h := h9
      clear h9
      exact am_obe h hr
    | lrem =>
      obtain ⟨a, b, r, e9, h9⟩ := am_ll_e h
      clear h
      subst e9
      have h := h9
      clear h9
      exact am_obe h hr
    | lneg =>
      obtain ⟨a, r, e9, h9⟩ := am_l_e h
      clear h
      subst e9
      have h := h9
      clear h9
      exact am_nxe h hr
    | lshl =>
      obtain ⟨a, b, r, e9, h9⟩ := am_li_e h
      clear h
      subst e9
      have h := h9
      clear h9
      exact am_nxe h hr
    | lshr =>
      obtain ⟨a, b, r, e9, h9⟩ := am_li_e h
      clear h
      subst e9
      have h := h9
      clear h9
      exact am_nxe h hr
    | lushr =>
      obtain ⟨a, b, r, e9, h9⟩ := am_li_e h
      clear h
      subst e9
      have h := h9
      clear h9
      exact am_nxe h hr
    | i2l =>
      obtain ⟨a, r, e9, h9⟩ := am_i_e h
      clear h
      subst e9
      have h := h9
      clear h9
      exact am_nxe h hr
    | l2i =>
      obtain ⟨a, r, e9, h9⟩ := am_l_e h
      clear h
      subst e9
      have h := h9
      clear h9
      exact am_nxe h hr
    | i2b =>
      obtain ⟨a, r, e9, h9⟩ := am_i_e h
      clear h
      subst e9
      have h := h9
      clear h9
      exact am_nxe h hr
    | i2c =>
      obtain ⟨a, r, e9, h9⟩ := am_i_e h
      clear h
      subst e9
      have h := h9
      clear h9
      exact am_nxe h hr
    | dup =>
      obtain ⟨u, r, e9, hu, h9⟩ := am_one_e h
      clear h
      subst e9
      have h := h9
      clear h9
      exact ⟨am_k1 hu, am_nxe h hr⟩
    | pop =>
      obtain ⟨u, r, e9, hu, h9⟩ := am_one_e h
      clear h
      subst e9
      have h := h9
      clear h9
      exact ⟨am_k1 hu, am_nxe h hr⟩
    | dup_x1 =>
      obtain ⟨u, r, e9, hu, h9⟩ := am_one_e h
      clear h
      subst e9
      have h := h9
      clear h9
      obtain ⟨t, r, e9, ht, h9⟩ := am_one_e h
      clear h
      subst e9
      have h := h9
      clear h9
      exact ⟨am_k1 hu, am_k1 ht, am_nxe h hr⟩
    | dup2 =>
      obtain ⟨u, r, e9, hu, h9⟩ := am_one_e h
      clear h
      subst e9
      have h := h9
      clear h9
      obtain ⟨t, r, e9, ht, h9⟩ := am_one_e h
      clear h
      subst e9
      have h := h9
      clear h9
      exact ⟨am_k1 hu, am_k1 ht, am_nxe h hr⟩
    | goto n0 =>
      exact am_nxe h hr
    | lcmp =>
      obtain ⟨a, b, r, e9, h9⟩ := am_ll_e h
      clear h
      subst e9
      have h := h9
      clear h9
      exact am_nxe h hr
    | tableswitch n0 n1 n2 n3 =>
      obtain ⟨a, r, e9, h9⟩ := am_i_e h
      clear h
      subst e9
      have h := h9
      clear h9
      exact xm_sw_m (fun _ q => q rc rs hr) h
    | lookupswitch n0 n1 =>
      obtain ⟨a, r, e9, h9⟩ := am_i_e h
      clear h
      subst e9
      have h := h9
      clear h9
      exact xm_sw_m (fun _ q => q rc rs hr) h
    | getfield n0 =>
      obtain ⟨a, r, e9, h9⟩ := am_a_e h
      clear h
      subst e9
      have h := h9
      clear h9
      obtain ⟨u, hk, hu, h⟩ := am_gf_e (ad := ad) H h
      have h98 : ¬ x = 98 := fun e => by
        have := sr_ly a
        omega
      simp only [if_neg h98]
      exact am_GF (K := fun u9 => X (pc + 3) _ (u9 :: _) _ rc rs) H hk hu (am_nxe h hr)
    | putfield n0 =>
      obtain ⟨a, u, r, e9, h9⟩ := am_av_e h
      clear h
      subst e9
      have h := h9
      clear h9
      obtain ⟨M9, hk, hM, hf, hy, h⟩ := am_pf_e (ad := ad) (z := z) H h
      exact am_PF (K := fun h9 => X (pc + 3) _ _ h9 rc rs) H hk hM hf hy (am_nxe h hr)
    | laload =>
      obtain ⟨a, j, r, e9, h9⟩ := am_ai_e h
      clear h
      subst e9
      have h := h9
      clear h9
      obtain ⟨hk, h⟩ := am_ar_e h
      exact am_ALL (K := fun u9 => X (pc + 1) _ (.long u9 :: _) _ rc rs) H hk (am_obe h hr)
    | caload =>
      obtain ⟨a, j, r, e9, h9⟩ := am_ai_e h
      clear h
      subst e9
      have h := h9
      clear h9
      obtain ⟨hk, h⟩ := am_ar_e h
      exact am_AIL (K := fun u9 => X (pc + 1) _ (.int u9 :: _) _ rc rs) (am_5 H hk) (am_obe h hr)
    | baload =>
      obtain ⟨a, j, r, e9, h9⟩ := am_ai_e h
      clear h
      subst e9
      have h := h9
      clear h9
      obtain ⟨hb, h⟩ := am_bif h
      have h94 : ¬ x = 4 := fun e => by subst e; cases hb
      simp only [if_neg h94]
      obtain ⟨hk, h⟩ := am_ar_e h
      exact am_AIL (K := fun u9 => X (pc + 1) _ (.int u9 :: _) _ rc rs) (am_34 H hb hk) (am_obe h hr)
    | aaload =>
      obtain ⟨a, j, r, e9, h9⟩ := am_ai_e h
      clear h
      subst e9
      have h := h9
      clear h9
      obtain ⟨hk, h⟩ := am_ar_e h
      obtain ⟨hb, h⟩ := am_bif h
      obtain ⟨h1, h⟩ := am_obe h hr
      exact am_AAL (K := fun u9 => X (pc + 1) _ (u9 :: _) _ rc rs) H (Nat.eq_of_beq_eq_true hb) hk h1.2 h1.1 h
    | iastore =>
      obtain ⟨a, j, u, r, e9, h9⟩ := am_aii_e h
      clear h
      subst e9
      have h := h9
      clear h9
      obtain ⟨hk, h⟩ := am_ar_e h
      obtain ⟨h1, h⟩ := am_obe h hr
      exact am_AIS (K := fun h9 => X (pc + 1) _ _ h9 rc rs) (am_1 H hk) h1 h
    | lastore =>
      obtain ⟨a, j, u, r, e9, h9⟩ := am_ail_e h
      clear h
      subst e9
      have h := h9
      clear h9
      obtain ⟨hk, h⟩ := am_ar_e h
      obtain ⟨h1, h⟩ := am_obe h hr
      exact am_ALS (K := fun h9 => X (pc + 1) _ _ h9 rc rs) H hk h1 h
    | castore =>
      obtain ⟨a, j, u, r, e9, h9⟩ := am_aii_e h
      clear h
      subst e9
      have h := h9
      clear h9
      obtain ⟨hk, h⟩ := am_ar_e h
      obtain ⟨h1, h⟩ := am_obe h hr
      exact am_AIS (K := fun h9 => X (pc + 1) _ _ h9 rc rs) (am_5 H hk) h1 h
    | bastore =>
      obtain ⟨a, j, u, r, e9, h9⟩ := am_aii_e h
      clear h
      subst e9
      have h := h9
      clear h9
      obtain ⟨hb, h⟩ := am_bif h
      obtain ⟨hk, h⟩ := am_ar_e h
      obtain ⟨h1, h⟩ := am_obe h hr
      exact am_AIS (K := fun h9 => X (pc + 1) _ _ h9 rc rs) (am_34 H hb hk) h1 h
    | ifCond c o =>
      cases c <;> (obtain ⟨a, r, e9, h9⟩ := am_i_e h; clear h; subst e9; have h := h9; clear h9; exact ⟨fun c => h.1 c rc rs hr, fun c => h.2 c rc rs hr⟩)
    | if_icmp c o =>
      cases c <;> (obtain ⟨a, b, r, e9, h9⟩ := am_ii_e h; clear h; subst e9; have h := h9; clear h9; exact ⟨fun c => h.1 c rc rs hr, fun c => h.2 c rc rs hr⟩)
    | iaload =>
      obtain ⟨a, j, r, e9, h9⟩ := am_ai_e h; clear h; subst e9; have h := h9; clear h9
      by_cases hw : w = -1
      · subst hw
        obtain ⟨i, n, f, h1, h2⟩ := am_sa_e (ad := ad) (lo := lo) (b, L0, xs) (am_bT am_w1 h)
        obtain ⟨h3, h4⟩ := am_obe h2 hr
        exact ⟨i, n, f, h1, h3, h4⟩
      · have h := am_bF (am_w hw) h
        simp only [if_neg hw]
        obtain ⟨hk, h⟩ := am_ar_e h
        exact am_AIL (K := fun u9 => X (pc + 1) _ (.int u9 :: _) _ rc rs) (am_1 H hk) (am_obe h hr)
    | arraylength =>
      obtain ⟨a, r, e9, h9⟩ := am_a_e h; clear h; subst e9; have h := h9; clear h9
      by_cases hw : w = -1
      · subst hw
        obtain ⟨i, n, f, h1, h2⟩ := am_sa_e (ad := ad) (lo := lo) (b, L0, xs) (am_bT am_w1 h)
        exact ⟨i, n, f, h1, am_nxe h2 hr⟩
      · have h := am_bF (am_w hw) h
        simp only [if_neg hw]
        by_cases hw2 : w = -2
        · subst hw2
          exact False.elim (am_bT (show ((-2 : Int32) == -2) = true by decide) h)
        have h := am_bF (am_w hw2) h
        simp only [if_neg hw2]
        obtain ⟨hb, h⟩ := am_bif h
        have hb := (Bool.and_eq_true _ _).mp hb
        have h1 := Nat.le_of_ble_eq_true hb.1
        have h6 := Nat.le_of_ble_eq_true hb.2
        have hA : ∃ cA g9, cA < 6 ∧ (hp M z).1 (am_ad lo ad a) = some (.inl (ac cA, (am_ly a).2.1, g9)) := by
          rw [am_at H (by omega)]
          rcases (by omega : (am_ly a).1 = 1 ∨ (am_ly a).1 = 2 ∨ (am_ly a).1 = 3 ∨ (am_ly a).1 = 4 ∨ (am_ly a).1 = 5 ∨ (am_ly a).1 = 6) with e | e | e | e | e | e
          · exact ⟨0, _, by decide, by rw [← am_at (ad := ad) H (by omega) M z, (am_1 (ad := ad) H e).1]⟩
          · exact ⟨1, _, by decide, am_2 H e _ _⟩
          · exact ⟨2, _, by decide, by rw [← am_at (ad := ad) H (by omega) M z, (am_3 (ad := ad) H e).1]⟩
          · exact ⟨3, _, by decide, by rw [← am_at (ad := ad) H (by omega) M z, (am_4 (ad := ad) H e).1]⟩
          · exact ⟨4, _, by decide, by rw [← am_at (ad := ad) H (by omega) M z, (am_5 (ad := ad) H e).1]⟩
          · exact ⟨5, _, by decide, am_6 H e _ _⟩
        obtain ⟨cA, g9, hc, hA⟩ := hA
        show xm_An (hp M z) ac (am_ad lo ad a) (fun n => X (pc + 1) _ (.int (Int32.ofNat n) :: _) _ rc rs)
        unfold xm_An
        rw [hA]
        refine ⟨?_, am_nxe h hr⟩
        rcases (by omega : cA = 0 ∨ cA = 1 ∨ cA = 2 ∨ cA = 3 ∨ cA = 4 ∨ cA = 5) with e | e | e | e | e | e <;> subst e <;> simp
    | ireturn =>
      change am_G cs' post (am_Z hp lo ad X t z) (match (generalizing := false) st with
        | [.inl a] => am_ri rt a M
        | _ => am_no) at h
      split at h
      · rename_i a
        unfold am_ri at h
        split at h
        · exact ⟨⟨.int, rfl, rfl⟩, .inl (some (.inl a)), M, z, rfl, rfl, fun _ => rfl, h.2⟩
        · rename_i ty hty
          exact ⟨⟨ty, rfl, h.1⟩, .inl (some (.inl a)), M, z, rfl, rfl, fun _ => rfl, h.2⟩
        · exact h.elim
      · exact h.elim
    | lreturn =>
      change am_G cs' post (am_Z hp lo ad X t z) (match (generalizing := false) st, rt with
        | [.inr (.inl a)], some .long => am_rt True (.inl (some (.inr (.inl a)))) M
        | _, _ => am_no) at h
      split at h
      · rename_i a
        exact ⟨rfl, .inl (some (.inr (.inl a))), M, z, rfl, rfl, fun _ => rfl, h.2⟩
      · exact h.elim
    | return_ =>
      change am_G cs' post (am_Z hp lo ad X t z) (match (generalizing := false) st, rt with
        | [], none => am_rt True (.inl none) M
        | _, _ => am_no) at h
      split at h
      · exact ⟨rfl, .inl none, M, z, rfl, rfl, fun _ => rfl, h.2⟩
      · exact h.elim
    | invokestatic n =>
      by_cases hw : w = -1
      · subst hw
        obtain ⟨a1, sp, a2, dp, n, r, e9, h9⟩ := am_cp_e (am_bT am_w1 (show am_G cs' post (am_Z hp lo ad X t z) (bif _ then _ else _) from h)); clear h; subst e9; have h := h9; clear h9
        obtain ⟨hk, h⟩ := am_ar_e h
        obtain ⟨hk2, h⟩ := am_ar_e h
        obtain ⟨h8, h⟩ := am_bif h
        obtain ⟨⟨q1, q2, q3, q4, q5⟩, h⟩ := am_obe h hr
        have i1 := am_1 (ad := ad) H hk
        have i2 := am_1 (ad := ad) H hk2
        simp only [if_true]
        show xm_Ai (hp M z) (ac 0) (am_ad lo ad a1) _
        unfold xm_Ai
        rw [i1.1, i2.1]
        refine ⟨rfl, rfl, q1, q2, q3, q4, q5, i2.2.2, am_c8 h8, ?_⟩
        rw [i2.2.1]
        exact h
      · have h := am_bF (am_w hw) (show am_G cs' post (am_Z hp lo ad X t z) (bif w == -1 then _ else _) from h)
        simp only [if_neg hw]
        by_cases hw2 : w < -1
        · have h := am_bT (decide_eq_true hw2) h
          simp only [if_pos hw2]
          unfold am_ma at h
          unfold xm_ma
          by_cases e2 : w = -2
          · subst e2
            obtain ⟨a, b, r, e9, h9⟩ := am_ii_e (am_bT (by decide) h); clear h; subst e9; have h := h9; clear h9
            obtain ⟨h8, h⟩ := am_bif h
            exact ⟨am_c8 h8, am_nxe h hr⟩
          · have h := am_bF (am_w e2) h
            rw [if_neg e2]
            by_cases e3 : w = -3
            · subst e3
              obtain ⟨a, b, r, e9, h9⟩ := am_ii_e (am_bT (by decide) h); clear h; subst e9; have h := h9; clear h9
              obtain ⟨h8, h⟩ := am_bif h
              exact ⟨am_c8 h8, am_nxe h hr⟩
            · have h := am_bF (am_w e3) h
              rw [if_neg e3]
              obtain ⟨a, b, r, e9, h9⟩ := am_ll_e h; clear h; subst e9; have h := h9; clear h9
              obtain ⟨h8, h⟩ := am_bif h
              exact ⟨am_c8 h8, am_nxe h hr⟩
        · have h := am_bF (decide_eq_false hw2) h
          simp only [if_neg hw2]
          obtain ⟨hy, h⟩ := am_bif h
          obtain ⟨h8, h⟩ := am_bif h
          refine ⟨by rw [List.length_map]; exact Nat.le_of_ble_eq_true hy, ?_⟩
          have hc := am_call_e hcs h h8 hr (xm_kx [] (xp_sv ad sa (b, L0, xs)) (am_p hp lo ad z post) X pc (L.map (Option.map (am_c lo ad))))
          rw [List.map_reverse, List.map_take, List.map_drop] at hc
          exact hc
    | invokevirtual n =>
     by_cases hw : w = -1
     · subst hw
       have h := am_bT am_w1 (show am_G cs' post (am_Z hp lo ad X t z) (bif _ then _ else _) from h)
       obtain ⟨hy1, h⟩ := am_bif h
       have hy1 := Nat.eq_of_beq_eq_true hy1
       subst hy1
       obtain ⟨a, j, r, e9, h9⟩ := am_ai_e h; clear h; subst e9; have h := h9; clear h9
       obtain ⟨h8, h⟩ := am_bif h
       cases hl : am_lit a with
       | none => rw [hl] at h; exact False.elim h
       | some bs =>
         rw [hl] at h
         dsimp only at h
         by_cases hx0 : x = 0
         · subst hx0
           obtain ⟨⟨hd4, hj⟩, h⟩ := am_obe (am_bT rfl h) hr
           obtain ⟨hrc, hc⟩ := hst hd4 a bs hl
           rw [← sr_ad (lo := lo) (ad := ad) hl] at hrc hc
           exact ⟨hrc, xw1 0 0 (am_c8 h8) (Nat.zero_le _) (Nat.zero_le _) ((hc j (hp M z)).1 hj) h⟩
         · have h := am_bF (sr_nb hx0) h
           by_cases hx4 : x = 4
           · subst hx4
             obtain ⟨hd4, h⟩ := am_obe (am_bT rfl h) hr
             obtain ⟨hrc, hc⟩ := hst hd4 a bs hl
             rw [← sr_ad (lo := lo) (ad := ad) hl] at hrc hc
             exact ⟨hrc, xw1 0 0 (am_c8 h8) (Nat.zero_le _) (Nat.zero_le _) (hc j (hp M z)).2 h⟩
           · exact False.elim (am_bF (sr_nb hx4) h)
     · have h := am_bF (am_w hw) (show am_G cs' post (am_Z hp lo ad X t z) (bif w == -1 then _ else _) from h)
       change am_G cs' post (am_Z hp lo ad X t z) (match (generalizing := false) st.drop y with
         | .inr (.inr (some b)) :: r => bif Nat.beq (am_ly b).1 (xp.2.2.2.2.2.2.1 x + 10) then (bif Nat.ble (am_cs r) 8 then am_cl x (.inr (.inr (some b)) :: (st.take y).reverse) (pc + 3, L, r, M) else am_no) else am_no
         | _ => am_no) at h
       split at h
       · rename_i b9 r9 hd
         obtain ⟨hb, h⟩ := am_bif h
         have hk := Nat.eq_of_beq_eq_true hb
         obtain ⟨h8, h⟩ := am_bif h
         have hc := am_call_e hcs h h8 hr (xm_kx [] (xp_sv ad sa (b, L0, xs)) (am_p hp lo ad z post) X pc (L.map (Option.map (am_c lo ad))))
         rw [List.map_cons, List.map_reverse, List.map_take] at hc
         simp only [if_neg hw]
         show xm_rcv (st.map (am_c lo ad)) y _
         unfold xm_rcv
         rw [← List.map_drop, hd]
         refine ⟨?_, hc⟩
         show xm_O (hp M z) _ (am_ad lo ad b9) _
         unfold xm_O
         rw [am_at H (by rw [hk]; omega), am_obj H hk]
         exact ⟨rfl, trivial⟩
       · exact h.elim
    | getstatic n =>
      obtain ⟨hb, h⟩ := am_bif h
      have hx := Nat.le_of_ble_eq_true hb
      have h := am_nxe h hr
      rcases (by omega : x = 0 ∨ x = 1 ∨ x = 2 ∨ x = 3 ∨ x = 4 ∨ x = 5 ∨ x = 6) with e | e | e | e | e | e | e <;> subst e <;> exact h
    | new n =>
      by_cases hw : w = -1
      · subst hw
        obtain ⟨h8, h⟩ := am_bif (am_bT am_w1 (show am_G cs' post (am_Z hp lo ad X t z) (bif _ then _ else _) from h))
        obtain ⟨⟨h7, ht⟩, hp9⟩ := h
        have hr := hr ht
        simp only [if_true]
        refine ⟨trivial, h7, hr.1, hr.2, am_c8 h8, fun z' _ => ⟨.inr (xm_ex x), M, z', rfl, H.2.2.2.2 M z z', fun q => ?_, hp9⟩⟩
        obtain ⟨v, q⟩ := q
        cases q
      · exact False.elim (am_bF (am_w hw) (show am_G cs' post (am_Z hp lo ad X t z) (bif w == -1 then _ else _) from h))
    | aastore =>
      obtain ⟨a, j, u, r, e9, h9⟩ := am_aia_e h; clear h; subst e9; have h := h9; clear h9
      obtain ⟨hk, h⟩ := am_ar_e h
      obtain ⟨hb, h⟩ := am_bif h
      have hb := (Bool.and_eq_true _ _).mp hb
      have h3 := Nat.eq_of_beq_eq_true hb.1
      have hb := (Bool.and_eq_true _ _).mp hb.2
      have u1 := Nat.le_of_ble_eq_true hb.1
      have hb := (Bool.and_eq_true _ _).mp hb.2
      have u4 := Nat.le_of_ble_eq_true hb.1
      have hu := Nat.eq_of_beq_eq_true hb.2
      obtain ⟨hj, h⟩ := am_obe h hr
      have h0 : ¬ (am_ly a).1 = 0 := by rw [hk]; decide
      have hl : a < 208 := am_lt h0
      show xm_Aq (hp M z) (ac 5) (am_ad lo ad a) _
      unfold xm_Aq
      rw [am_at H h0, am_6 H hk, h3]
      refine ⟨rfl, hj, by rw [am_adk (by omega)]; exact Nat.le_add_right _ _, ?_, ?_⟩
      · show xm_Ai (hp M z) (ac 0) (am_ad lo ad u) _
        unfold xm_Ai
        rw [(am_1 (ad := ad) H hu).1]
        exact ⟨rfl, trivial⟩
      · have e9 : u = a + 1 + (u - (a + 1)) := by omega
        have eu : (Int32.ofNat (u - (a + 1))).toNatClampNeg = u - (a + 1) := by
          rcases (by omega : u - (a + 1) = 0 ∨ u - (a + 1) = 1 ∨ u - (a + 1) = 2) with e | e | e <;> rw [e] <;> decide
        have hM : xm_up (hp M z) (am_ad lo ad a) (.inl (ac 5, 3, .inr (.inr (.inr (.inr (va_up (va_up (va_up (va_up (fun _ => none) 0 (some (lo + (a + 1 + (M.1 a 0).toNatClampNeg)))) 1 (some (lo + (a + 1 + (M.1 a 1).toNatClampNeg)))) 2 (some (lo + (a + 1 + (M.1 a 2).toNatClampNeg)))) j.toNatClampNeg (some (am_ad lo ad u)))))))) = hp (mm_i M a (upd (M.1 a) j.toNatClampNeg (Int32.ofNat (u - (a + 1))))) z := by
          rw [am_adk (k := a) (by omega), am_adk (k := u) (by omega)]
          refine H.2.2.1 M z a _ _ ?_
          rw [← am_shk, am_6 H hk, h3]
          have ef : ∀ g1 g2 : Nat → Option Nat, g1 = g2 → (some (Sum.inl (ac 5, 3, Sum.inr (Sum.inr (Sum.inr (Sum.inr g1)))) : va_E)) = some (Sum.inl (ac 5, 3, Sum.inr (Sum.inr (Sum.inr (Sum.inr g2))))) := fun g1 g2 e => by rw [e]
          refine ef _ _ (funext fun i => ?_)
          rcases am_in3 hj with e | e | e <;> rw [e] <;> simp only [va_up, upd] <;> by_cases i0 : i = 0 <;> by_cases i1 : i = 1 <;> by_cases i2 : i = 2 <;> first | omega | (simp [i0, i1, i2, eu] <;> omega) | simp [i0, i1, i2, eu]
        rw [hM]
        exact h
    | _ => exact False.elim h
end AMS
theorem am_en_map (lo : Nat) (ad : Nat → Nat) : ∀ vs : List am_V, xm_en (vs.map (am_c lo ad)) = (am_en vs).map (Option.map (am_c lo ad))
  | [] => rfl
  | .inl a :: vs => by
    have := am_en_map lo ad vs
    simp only [List.map_cons, am_c, am_en, xm_en, this, Value.category]
    rfl
  | .inr (.inl a) :: vs => by
    have := am_en_map lo ad vs
    simp only [List.map_cons, am_c, am_en, xm_en, this, Value.category]
    rfl
  | .inr (.inr none) :: vs => by
    have := am_en_map lo ad vs
    simp only [List.map_cons, am_c, am_en, xm_en, this, Value.category]
    rfl
  | .inr (.inr (some k)) :: vs => by
    have := am_en_map lo ad vs
    simp only [List.map_cons, am_c, am_en, xm_en, this, Value.category]
    rfl
theorem am_sl_len : ∀ vs : List Value, (lg_sl vs).length = (xm_en vs).length
  | [] => rfl
  | v :: vs => by
    have := am_sl_len vs
    unfold lg_sl at this ⊢
    simp only [List.flatMap_cons, List.length_append, xm_en, this]
    split <;> simp <;> omega
theorem am_sound {ac : Nat → ClassId} {lo : Nat} {ad sa : Nat → Nat} {b L0 : Nat} {xs : Nat → Int32} {hp : mm_M → Nat → xm_H} (H : mm_L ac lo hp) : ∀ (d : Nat) (t : Bool) (x : Nat) (as : List am_V) (M : mm_M) (q : am_Q), am_M d t x as M q → ∀ z, xm_M xp ac lo xp_fty xp_dfl (xp_sv ad sa (b, L0, xs)) d x (as.map (am_c lo ad)) (hp M z) (bif t then 1 else 0) (bif t then 6 else 0) (am_p hp lo ad z q)
  | 0, _, _, _, _, _, h, _ => h.elim
  | d + 1, t, x, as, M, q, h, z => by
    obtain ⟨h1, h2, h3, h4⟩ := h
    have h3 := Nat.le_of_ble_eq_true h3
    refine ⟨h1, ?_, ?_, fun X hX => ?_⟩
    · rw [am_en_map, List.length_map]; exact h3
    · rw [am_sl_len, am_en_map, List.length_map]; exact h3
    · have key := h4 (am_Z hp lo ad X t z) (fun pc L st M hG rc rs hr => by
        refine hX _ _ _ _ _ _ ?_
        have hs := am_step (sa := sa) (b := b) (L0 := L0) (xs := xs) H (cs := xm_M xp ac lo xp_fty xp_dfl (xp_sv ad sa (b, L0, xs)) d) (fun x as M q hq z => by
          have := am_sound (ad := ad) (sa := sa) (b := b) (L0 := L0) (xs := xs) H d false x as M q hq z
          exact this) (fun h4 a bs hl => sr_use h4 hl) (tb := fun pc => (xp_row x).2.2.2.2.1.lookup pc) hG hr
        have e2 : xp.2.2.2.2.2.2.2 x = [] := h2
        rw [e2]
        exact hs) (bif t then 1 else 0) (bif t then 6 else 0) (fun ht => by subst ht; exact ⟨Nat.le_refl _, Nat.le_refl _⟩)
      have e0 : (am_s0 (xp_row x).2.2.1 as).map (Option.map (am_c lo ad)) = xm_st (xp.2.2.1 x) (as.map (am_c lo ad)) := by
        unfold am_s0 xm_st
        rw [List.map_append, List.map_replicate, am_en_map, List.length_map]
        rfl
      exact am_cg e0 key
