/-! SHORTEST: PAULIS of two WIRES, five bits each (two x's, two z's, a sign) -/
/-- what each gate makes of each of them: 32 rows of five bits -/
def szT : Nat → Nat
  | 0 => 0x7b9acdeb38398a49ca30ffbbc5a928bdab418820
  | 1 => 0x7b9ac5a928bdab49ca30ffbbcdeb38398a418820
  | 2 => 0xfbbac5e938b9aa41c8307f9bcdab283d8b498a20
  | 3 => 0xff9acde92839ab418a307bbbc5ab38bd8a49c820
  | 4 => 0x7f9bc5e9383d8b41c830fbbacdab28b9aa498a20
  | 5 => 0x7bbbc5ab3839ab418a30ff9acde928bd8a49c820
  | 6 => 0x7edb9f6b983ccb1b4a90fafa972988b8ea130880
  | 7 => 0x7baf65aa72ef2b4ce230ff8e6de8626b0a44a020
  | 8 => 0x5f93cfebb81d834bcab0dbb2c7a9a899a24388a0
  | 9 => 0x39bbc18b38ffab4dea30bd9ac9c9287b8a45a820
  | 10 => 0xdfb3c7e9b89da343c8b05b92cfaba819824b8aa0
  | 11 => 0xbdbbc9cb387bab45aa30399ac18928ff8a4de820
  | 12 => 0xff7dcbd6d4de7589c6507b5cc394c45a54818440
  | 13 => 0x35eb4d6f38f3fbc94e30b1ca452d2877dac10c20
  | 14 => 0x4eb78ef9fcadaf48ca70ca9686bbec298e408860
  | 15 => 0xd0fb4b7e3896ebc75f3054da433c2812cacf1d20
  | 16 => 0xaf8788eafcccbf46db702ba680a8ec489e4e9960
  | 17 => 0x9eabc3fa385cbb4fdb301a8acbb828d89a479920
  | 18 => 0x9eabc3fa385cbb4fdb301a8acbb828d89a479920
  | _ => 0
def szR (g r : Nat) : Nat := (szT g >>> (5 * r)) % 32
def szI (g : Nat) : Nat := if g = 8 then 10 else if g = 9 then 11 else if g = 10 then 8 else if g = 11 then 9 else g
def szB (n i : Nat) : Nat := (n >>> i) % 2
def szq (x1 z1 x2 z2 : Nat) : Nat := x1 * z1 + x2 * z2 + 2 * (z1 * x2) + 3 * ((x1 ^^^ x2) * (z1 ^^^ z2))
/-- products, an i put to those that don't commute -/
def szM (a b : Nat) : Nat := (a ^^^ b) ^^^ (((szq (szB a 0) (szB a 2) (szB b 0) (szB b 2) + szq (szB a 1) (szB a 3) (szB b 1) (szB b 3)) % 4 + 1) / 2 % 2 * 16)
theorem sz_m : ∀ g, g < 19 → ∀ a, a < 32 → ∀ b, b < 32 → szR g (szM a b) = szM (szR g a) (szR g b) := by decide +kernel
theorem sz_Ml : ∀ a, a < 32 → ∀ b, b < 32 → szM a b < 32 := by decide +kernel
theorem sz_i : ∀ g, g < 19 → ∀ r, r < 32 → szR (szI g) (szR g r) = r ∧ szR g (szR (szI g) r) = r := by decide +kernel
theorem sz_I : ∀ g, g < 19 → szI g < 19 := by decide
theorem sz_0 : ∀ g, g < 19 → szR g 0 = 0 := by decide
theorem sz_n : ∀ g, g < 19 → ∀ r, r < 32 → szR g (r ^^^ 16) = szR g r ^^^ 16 := by decide +kernel
theorem sz_lt (g r : Nat) : szR g r < 32 := Nat.mod_lt _ (by decide)
abbrev K4 : Type := Nat × Nat × Nat × Nat
def k4 (k : K4) : Prop := k.1 < 32 ∧ k.2.1 < 32 ∧ k.2.2.1 < 32 ∧ k.2.2.2 < 32
def k4e : K4 := (1, 4, 2, 8)
def szP (g : Nat) (k : K4) : K4 := (szR g k.1, szR g k.2.1, szR g k.2.2.1, szR g k.2.2.2)
theorem szP_k (g : Nat) (k : K4) : k4 (szP g k) := ⟨sz_lt _ _, sz_lt _ _, sz_lt _ _, sz_lt _ _⟩
def szc (p r : Nat) (b : Nat) : Nat := if szB r b = 1 then p else 0
/-- each of them, of those of x 0, z 0, x 1, z 1 -/
def szU (k : K4) (r : Nat) : Nat := szM (szM (szc k.1 r 0) (szc k.2.1 r 2)) (szM (szc k.2.2.1 r 1) (szc k.2.2.2 r 3))
def szE (k : K4) (r : Nat) : Nat := if szB r 4 = 1 then szU k r ^^^ 16 else szU k r
theorem sz_e : ∀ r, r < 32 → szE k4e r = r := by decide +kernel
theorem szc_l {p r b : Nat} (h : p < 32) : szc p r b < 32 := by
  unfold szc
  split
  · exact h
  · decide
theorem szc_g {g p r b : Nat} (hg : g < 19) : szR g (szc p r b) = szc (szR g p) r b := by
  unfold szc
  split
  · rfl
  · exact sz_0 g hg
theorem szU_l {k : K4} (h : k4 k) (r : Nat) : szU k r < 32 := sz_Ml _ (sz_Ml _ (szc_l h.1) _ (szc_l h.2.1)) _ (sz_Ml _ (szc_l h.2.2.1) _ (szc_l h.2.2.2))
theorem szU_g {g : Nat} {k : K4} (hg : g < 19) (h : k4 k) (r : Nat) : szR g (szU k r) = szU (szP g k) r := by
  unfold szU
  rw [sz_m g hg _ (sz_Ml _ (szc_l h.1) _ (szc_l h.2.1)) _ (sz_Ml _ (szc_l h.2.2.1) _ (szc_l h.2.2.2)), sz_m g hg _ (szc_l h.1) _ (szc_l h.2.1), sz_m g hg _ (szc_l h.2.2.1) _ (szc_l h.2.2.2), szc_g hg, szc_g hg, szc_g hg, szc_g hg]
  rfl
theorem szE_g {g : Nat} {k : K4} (hg : g < 19) (h : k4 k) (r : Nat) : szR g (szE k r) = szE (szP g k) r := by
  unfold szE
  split
  · rw [sz_n g hg _ (szU_l h r), szU_g hg h]
  · exact szU_g hg h r
/-- what a word of gates makes of one of them -/
def szW : List Nat → Nat → Nat
  | [], r => r
  | g :: w, r => szW w (szR g r)
def szA (w : List Nat) (k : K4) : K4 := (szW w k.1, szW w k.2.1, szW w k.2.2.1, szW w k.2.2.2)
theorem szW_l : ∀ (w : List Nat) (r : Nat), r < 32 → szW w r < 32
  | [], r, h => h
  | g :: w, r, _ => szW_l w _ (sz_lt g r)
theorem szA_k (w : List Nat) {k : K4} (h : k4 k) : k4 (szA w k) := ⟨szW_l w _ h.1, szW_l w _ h.2.1, szW_l w _ h.2.2.1, szW_l w _ h.2.2.2⟩
theorem szW_a : ∀ (u v : List Nat) (r : Nat), szW (u ++ v) r = szW v (szW u r)
  | [], v, r => rfl
  | g :: u, v, r => szW_a u v (szR g r)
theorem szA_a (u v : List Nat) (k : K4) : szA (u ++ v) k = szA v (szA u k) := by
  unfold szA
  rw [szW_a, szW_a, szW_a, szW_a]
def al19 (w : List Nat) : Prop := ∀ g ∈ w, g < 19
theorem szW_E : ∀ (w : List Nat) (k : K4) (r : Nat), al19 w → k4 k → szW w (szE k r) = szE (szA w k) r
  | [], k, r, _, _ => rfl
  | g :: w, k, r, hw, hk => by
    show szW w (szR g (szE k r)) = _
    rw [szE_g (hw g List.mem_cons_self) hk, szW_E w (szP g k) r (fun x hx => hw x (List.mem_cons_of_mem _ hx)) (szP_k g k)]
    rfl
theorem k4e_k : k4 k4e := ⟨by decide, by decide, by decide, by decide⟩
/-- what leaves those four leaves all -/
theorem sz_fx {w : List Nat} (hw : al19 w) (h : szA w k4e = k4e) {r : Nat} (hr : r < 32) : szW w r = r := by
  have := szW_E w k4e r hw k4e_k
  rw [h, sz_e r hr] at this
  exact this
def szV (u : List Nat) : List Nat := (u.map szI).reverse
theorem szV_c (g : Nat) (u : List Nat) : szV (g :: u) = szV u ++ [szI g] := by
  unfold szV
  rw [List.map_cons, List.reverse_cons]
theorem szV_19 {u : List Nat} (h : al19 u) : al19 (szV u) := by
  intro g hg
  unfold szV at hg
  rw [List.mem_reverse] at hg
  obtain ⟨y, hy, rfl⟩ := List.mem_map.mp hg
  exact sz_I y (h y hy)
theorem szV_1 : ∀ (u : List Nat) (r : Nat), al19 u → r < 32 → szW (szV u) (szW u r) = r
  | [], r, _, _ => rfl
  | g :: u, r, h, hr => by
    rw [szV_c, szW_a]
    show szR (szI g) (szW (szV u) (szW u (szR g r))) = r
    rw [szV_1 u _ (fun x hx => h x (List.mem_cons_of_mem _ hx)) (sz_lt g r)]
    exact (sz_i g (h g List.mem_cons_self) r hr).1
theorem szV_2 : ∀ (u : List Nat) (r : Nat), al19 u → r < 32 → szW u (szW (szV u) r) = r
  | [], r, _, _ => rfl
  | g :: u, r, h, hr => by
    rw [szV_c, szW_a]
    have hu : al19 u := fun x hx => h x (List.mem_cons_of_mem _ hx)
    show szW u (szR g (szR (szI g) (szW (szV u) r))) = r
    rw [(sz_i g (h g List.mem_cons_self) _ (szW_l _ _ hr)).2, szV_2 u r hu hr]
theorem al_a {u v : List Nat} (h : al19 u) (g : al19 v) : al19 (u ++ v) := fun x hx => (List.mem_append.mp hx).elim (h x) (g x)
/-- a word takes the inverse of U to no gate exactly if it makes U -/
theorem sz_DR {u w : List Nat} (hu : al19 u) (hw : al19 w) : szA w (szA (szV u) k4e) = k4e ↔ szA w k4e = szA u k4e := by
  have hv := szV_19 hu
  refine ⟨fun h => ?_, fun h => ?_⟩
  · rw [← szA_a] at h
    have key : ∀ r, r < 32 → szW w r = szW u r := fun r hr => by
      have := sz_fx (al_a hv hw) h (szW_l u r hr)
      rw [szW_a, szV_1 u r hu hr] at this
      exact this
    unfold szA
    rw [key _ k4e_k.1, key _ k4e_k.2.1, key _ k4e_k.2.2.1, key _ k4e_k.2.2.2]
  · have h2 : szA (w ++ szV u) k4e = k4e := by
      rw [szA_a, h]
      unfold szA
      rw [szV_1 u _ hu k4e_k.1, szV_1 u _ hu k4e_k.2.1, szV_1 u _ hu k4e_k.2.2.1, szV_1 u _ hu k4e_k.2.2.2]
    have key : ∀ r, r < 32 → szW w (szW (szV u) r) = r := fun r hr => by
      have h3 := sz_fx (al_a hw hv) h2 (szW_l (szV u) r hr)
      rw [szW_a] at h3
      have h4 := congrArg (szW u) h3
      rw [szV_2 u _ hu (szW_l w _ (szW_l _ _ hr)), szV_2 u r hu hr] at h4
      exact h4
    unfold szA
    rw [key _ k4e_k.1, key _ k4e_k.2.1, key _ k4e_k.2.2.1, key _ k4e_k.2.2.2]
