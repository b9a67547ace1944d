/-! ROUTE: arrangements, and how far OPS can be done -/
def adN (Q : Nat → Bool) (S : Nat) : Nat → Nat → Nat
  | 0, k => k
  | m + 1, k => if k < S ∧ Q k = true then adN Q S m (k + 1) else k
/-- how many are done when no more can be -/
def adv (Q : Nat → Bool) (S d : Nat) : Nat := adN Q S (S - d) d
section ADV
variable {Q : Nat → Bool} {S : Nat}
theorem adN_p : ∀ m k, S ≤ k + m → k ≤ adN Q S m k ∧ (k ≤ S → adN Q S m k ≤ S) ∧ (∀ j, k ≤ j → j < adN Q S m k → Q j = true) ∧ (adN Q S m k < S → Q (adN Q S m k) = false)
  | 0, k, h => ⟨Nat.le_refl _, fun h => h, fun j a b => absurd b (by show ¬ j < k; omega), fun z => absurd z (by show ¬ k < S; omega)⟩
  | m + 1, k, h => by
    by_cases c : k < S ∧ Q k = true
    · have e : adN Q S (m + 1) k = adN Q S m (k + 1) := if_pos c
      obtain ⟨a1, a2, a3, a4⟩ := adN_p m (k + 1) (by omega)
      rw [e]
      refine ⟨by omega, fun _ => a2 (by omega), fun j b1 b2 => ?_, a4⟩
      by_cases q : j = k
      · rw [q]
        exact c.2
      · exact a3 j (by omega) b2
    · have e : adN Q S (m + 1) k = k := if_neg c
      rw [e]
      refine ⟨Nat.le_refl _, fun h => h, fun j a b => absurd b (by omega), fun z => ?_⟩
      cases hq : Q k with
      | false => rfl
      | true => exact absurd ⟨z, hq⟩ c
theorem ad_ge (d : Nat) : d ≤ adv Q S d := (adN_p (S - d) d (by omega)).1
theorem ad_le {d : Nat} (h : d ≤ S) : adv Q S d ≤ S := (adN_p (S - d) d (by omega)).2.1 h
theorem ad_q {d j : Nat} (h : d ≤ j) (g : j < adv Q S d) : Q j = true := (adN_p (S - d) d (by omega)).2.2.1 j h g
theorem ad_n {d : Nat} (h : adv Q S d < S) : Q (adv Q S d) = false := (adN_p (S - d) d (by omega)).2.2.2 h
theorem ad_o {d : Nat} (h : S ≤ d) : adv Q S d = d := by
  unfold adv
  rw [show S - d = 0 by omega]
  rfl
theorem ad_z {d : Nat} (h : Q d = false) : adv Q S d = d := by
  apply Classical.byContradiction
  intro z
  have := ad_q (Q := Q) (S := S) (d := d) (Nat.le_refl _) (by have := ad_ge (Q := Q) (S := S) d; omega)
  rw [h] at this
  exact absurd this (by decide)
theorem adv_i (d : Nat) : adv Q S (adv Q S d) = adv Q S d := by
  by_cases c : adv Q S d < S
  · exact ad_z (ad_n c)
  · exact ad_o (by omega)
theorem ad_m {d d' : Nat} (h : d ≤ d') : adv Q S d ≤ adv Q S d' := by
  have g1 := ad_ge (Q := Q) (S := S) d'
  by_cases c : adv Q S d ≤ d'
  · omega
  · by_cases c2 : S ≤ d
    · rw [ad_o c2] at c
      omega
    · have l := ad_le (Q := Q) (S := S) (d := d) (by omega)
      apply Classical.byContradiction
      intro z
      have n := ad_n (Q := Q) (S := S) (d := d') (by omega)
      have q := ad_q (Q := Q) (S := S) (d := d) (j := adv Q S d') (by omega) (by omega)
      rw [n] at q
      exact absurd q (by decide)
theorem ad_s {d : Nat} (h : Q d = true) (hd : d < S) : adv Q S d = adv Q S (d + 1) := by
  have a := ad_m (Q := Q) (S := S) (Nat.le_succ d)
  have g := ad_ge (Q := Q) (S := S) d
  have b : d + 1 ≤ adv Q S d := by
    apply Classical.byContradiction
    intro z
    have e : adv Q S d = d := by omega
    have := ad_n (Q := Q) (S := S) (d := d) (by omega)
    rw [e, h] at this
    exact absurd this (by decide)
  have c := ad_m (Q := Q) (S := S) b
  rw [adv_i] at c
  have a : adv Q S d ≤ adv Q S (d + 1) := a
  omega
theorem adN_x {Q' : Nat → Bool} (h : ∀ k, k < S → Q k = Q' k) : ∀ m k, adN Q S m k = adN Q' S m k
  | 0, _ => rfl
  | m + 1, k => by
    show (if k < S ∧ Q k = true then adN Q S m (k + 1) else k) = (if k < S ∧ Q' k = true then adN Q' S m (k + 1) else k)
    rw [adN_x h m (k + 1)]
    by_cases c : k < S
    · rw [h k c]
    · rw [if_neg (fun z => c z.1), if_neg (fun z => c z.1)]
end ADV
/-- one place moves over a LINK -/
def swx (e x : Nat) : Nat := if x = e / 6 then e % 6 else if x = e % 6 then e / 6 else x
def lkB (Lk : Nat → Nat → Bool) (p : List Nat) : Option (Nat × Nat) → Bool
  | none => true
  | some (a, b) => Lk (p.getD a 0) (p.getD b 0)
def rtQq (Lk : Nat → Nat → Bool) (O : Nat → Option (Nat × Nat)) (p : List Nat) (k : Nat) : Bool := lkB Lk p (O k)
/-- a LINK that is there -/
def rtV (Lk : Nat → Nat → Bool) (e : Nat) : Prop := e < 36 ∧ e / 6 < e % 6 ∧ Lk (e / 6) (e % 6) = true
def rtS (Lk : Nat → Nat → Bool) (O : Nat → Option (Nat × Nat)) (S e : Nat) (k : List Nat × Nat) : List Nat × Nat := (k.1.map (swx e), adv (rtQq Lk O (k.1.map (swx e))) S k.2)
def rt0 (Lk : Nat → Nat → Bool) (O : Nat → Option (Nat × Nat)) (S W : Nat) : List Nat × Nat := (List.range W, adv (rtQq Lk O (List.range W)) S 0)
def rtG (S : Nat) (k : List Nat × Nat) : Prop := k.2 = S
def rtR (k k' : List Nat × Nat) : Prop := k.1 = k'.1 ∧ k'.2 ≤ k.2
theorem gd_m {p : List Nat} {f : Nat → Nat} {a : Nat} (h : a < p.length) : (p.map f).getD a 0 = f (p.getD a 0) := by
  rw [List.getD_eq_getElem?_getD, List.getD_eq_getElem?_getD, List.getElem?_map, List.getElem?_eq_getElem h]
  rfl
theorem swx_l : ∀ e, e < 36 → ∀ x, x < 6 → swx e x < 6 := by decide
theorem swx_i : ∀ e, e < 36 → e / 6 < e % 6 → ∀ x, x < 6 → swx e (swx e x) = x := by decide
section RTB
variable {Lk : Nat → Nat → Bool} {O : Nat → Option (Nat × Nat)} {S W : Nat}
theorem rtR_s (k k' : List Nat × Nat) (g : Nat) (h : rtR k k') : rtR (rtS Lk O S g k) (rtS Lk O S g k') := by
  obtain ⟨h1, h2⟩ := h
  refine ⟨by show k.1.map _ = k'.1.map _; rw [h1], ?_⟩
  show adv (rtQq Lk O (k'.1.map (swx g))) S k'.2 ≤ adv (rtQq Lk O (k.1.map (swx g))) S k.2
  rw [h1]
  exact ad_m h2
/-- a word's arrangement -/
theorem rt_p : ∀ (v : List Nat) (k : List Nat × Nat), (awS (rtS Lk O S) v k).1 = awS (fun e p => p.map (swx e)) v k.1
  | [], _ => rfl
  | e :: v, k => rt_p v (rtS Lk O S e k)
theorem rt_g : ∀ (v : List Nat) (p : List Nat) {a : Nat}, a < p.length → (awS (fun e p => p.map (swx e)) v p).getD a 0 = awS swx v (p.getD a 0)
  | [], _, _, _ => rfl
  | e :: v, p, a, h => by
    show (awS (fun e p => p.map (swx e)) v (p.map (swx e))).getD a 0 = awS swx v (swx e (p.getD a 0))
    rw [rt_g v (p.map (swx e)) (by rw [List.length_map]; exact h), gd_m h]
theorem rtp_l : ∀ (v : List Nat) (p : List Nat), (awS (fun e p => p.map (swx e)) v p).length = p.length
  | [], _ => rfl
  | e :: v, p => by
    show (awS (fun e p => p.map (swx e)) v (p.map (swx e))).length = _
    rw [rtp_l v, List.length_map]
theorem gd_w {a : Nat} (h : a < W) : (List.range W).getD a 0 = a := by
  rw [List.getD_eq_getElem?_getD, List.getElem?_range h]
  rfl
theorem rt_a {v : List Nat} {a : Nat} (h : a < W) : (awS (rtS Lk O S) v (rt0 Lk O S W)).1.getD a 0 = awS swx v a := by
  rw [rt_p, show (rt0 Lk O S W).1 = List.range W from rfl, rt_g v _ (show a < (List.range W).length by rw [List.length_range]; exact h), gd_w h]
theorem aws_6 : ∀ (v : List Nat) {x : Nat}, alV (rtV Lk) v → x < 6 → awS swx v x < 6
  | [], _, _, h => h
  | e :: v, x, hv, h => aws_6 v (fun y hy => hv y (List.mem_cons_of_mem _ hy)) (swx_l e (hv e List.mem_cons_self).1 x h)
theorem aws_r : ∀ (v : List Nat) {x : Nat}, alV (rtV Lk) v → x < 6 → awS swx v.reverse (awS swx v x) = x
  | [], _, _, _ => rfl
  | e :: v, x, hv, h => by
    have he := hv e List.mem_cons_self
    rw [List.reverse_cons, aw_a]
    show swx e (awS swx v.reverse (awS swx v (swx e x))) = x
    rw [aws_r v (fun y hy => hv y (List.mem_cons_of_mem _ hy)) (swx_l e he.1 x h), swx_i e he.1 he.2.1 x h]
/-- a word for two places need not be long -/
theorem aws_c : ∀ (n : Nat) (v : List Nat), v.length = n → alV (rtV Lk) v → ∀ x y, x < 6 → y < 6 → ∃ u, alV (rtV Lk) u ∧ u.length ≤ 36 ∧ awS swx u x = awS swx v x ∧ awS swx u y = awS swx v y := by
  intro n
  induction n using Nat.strongRecOn with
  | _ n ih =>
    intro v hn hv x y hx hy
    by_cases c : n ≤ 36
    · exact ⟨v, hv, by omega, rfl, rfl⟩
    · have tk : ∀ i, alV (rtV Lk) (v.take i) := fun i g hg => hv g (List.mem_of_mem_take hg)
      have dk : ∀ i, alV (rtV Lk) (v.drop i) := fun i g hg => hv g (List.mem_of_mem_drop hg)
      have : ∃ i j, i < j ∧ j < n + 1 ∧ 6 * awS swx (v.take i) x + awS swx (v.take i) y = 6 * awS swx (v.take j) x + awS swx (v.take j) y := by
        apply Classical.byContradiction
        intro z
        have := phoN 36 (n + 1) (fun i => 6 * awS swx (v.take i) x + awS swx (v.take i) y) (fun i _ => by
          have a := aws_6 (v.take i) (tk i) hx
          have b := aws_6 (v.take i) (tk i) hy
          show 6 * awS swx (v.take i) x + awS swx (v.take i) y < 36
          omega) (fun i j hi hj e => by
          apply Classical.byContradiction
          intro w
          rcases Nat.lt_or_ge i j with q | q
          · exact z ⟨i, j, q, hj, e⟩
          · exact z ⟨j, i, by omega, hi, e.symm⟩)
        omega
      obtain ⟨i, j, hij, hj, e⟩ := this
      have a1 := aws_6 (v.take i) (tk i) hx
      have a2 := aws_6 (v.take i) (tk i) hy
      have b1 := aws_6 (v.take j) (tk j) hx
      have b2 := aws_6 (v.take j) (tk j) hy
      have e1 : awS swx (v.take i) x = awS swx (v.take j) x := by omega
      have e2 : awS swx (v.take i) y = awS swx (v.take j) y := by omega
      obtain ⟨u, u1, u2, u3, u4⟩ := ih ((v.take i ++ v.drop j).length) (by
        rw [List.length_append, List.length_take, List.length_drop]
        omega) (v.take i ++ v.drop j) rfl (alV_a (tk i) (dk j)) x y hx hy
      refine ⟨u, u1, u2, ?_, ?_⟩
      · rw [u3, aw_a, e1, ← aw_a, List.take_append_drop]
      · rw [u4, aw_a, e2, ← aw_a, List.take_append_drop]
/-- what is done stays done -/
theorem rt_d : ∀ (v : List Nat) (k : List Nat × Nat), k.2 ≤ (awS (rtS Lk O S) v k).2
  | [], k => Nat.le_refl _
  | e :: v, k => Nat.le_trans (ad_ge _) (rt_d v (rtS Lk O S e k))
theorem rt_s : ∀ (v : List Nat) (k : List Nat × Nat), k.2 ≤ S → (awS (rtS Lk O S) v k).2 ≤ S
  | [], _, h => h
  | e :: v, k, h => rt_s v (rtS Lk O S e k) (ad_le h)
/-- no more can be done -/
def rtC (Lk : Nat → Nat → Bool) (O : Nat → Option (Nat × Nat)) (S : Nat) (k : List Nat × Nat) : Prop := adv (rtQq Lk O k.1) S k.2 = k.2
theorem rtC_s (e : Nat) (k : List Nat × Nat) : rtC Lk O S (rtS Lk O S e k) := adv_i _
theorem rtC_v : ∀ (v : List Nat) (k : List Nat × Nat), rtC Lk O S k → rtC Lk O S (awS (rtS Lk O S) v k)
  | [], _, h => h
  | e :: v, k, _ => rtC_v v (rtS Lk O S e k) (rtC_s e k)
theorem rtC_0 : rtC Lk O S (rt0 Lk O S W) := adv_i _
theorem rtC_n {k : List Nat × Nat} (h : rtC Lk O S k) (hk : k.2 < S) : rtQq Lk O k.1 k.2 = false := by
  have := ad_n (Q := rtQq Lk O k.1) (S := S) (d := k.2) (by rw [h]; exact hk)
  rw [h] at this
  exact this
/-- what was done could be done at some time -/
theorem rt_n (v : List Nat) (hv : alV (rtV Lk) v) {k : Nat} (hk : k < (awS (rtS Lk O S) v (rt0 Lk O S W)).2) : ∃ u, alV (rtV Lk) u ∧ rtQq Lk O (awS (rtS Lk O S) u (rt0 Lk O S W)).1 k = true := by
  have key : ∀ u : List Nat, alV (rtV Lk) u.reverse → k < (awS (rtS Lk O S) u.reverse (rt0 Lk O S W)).2 → ∃ u, alV (rtV Lk) u ∧ rtQq Lk O (awS (rtS Lk O S) u (rt0 Lk O S W)).1 k = true := by
    intro u
    induction u with
    | nil => exact fun _ h => ⟨[], alV_0, ad_q (Nat.zero_le _) h⟩
    | cons g u ih =>
      intro hl h
      rw [List.reverse_cons] at hl
      by_cases c : k < (awS (rtS Lk O S) u.reverse (rt0 Lk O S W)).2
      · exact ih (fun x hx => hl x (List.mem_append.mpr (Or.inl hx))) c
      · refine ⟨u.reverse ++ [g], hl, ?_⟩
        rw [List.reverse_cons, aw_a] at h
        rw [aw_a]
        exact ad_q (d := (awS (rtS Lk O S) u.reverse (rt0 Lk O S W)).2) (by omega) h
  have := key v.reverse
  rw [List.reverse_reverse] at this
  exact this hv hk
/-- OPS on WIRES that are there -/
def rtO (O : Nat → Option (Nat × Nat)) (S W : Nat) : Prop := ∀ k a b, k < S → O k = some (a, b) → a < W ∧ b < W
theorem rt_short {v : List Nat} (hW : W ≤ 6) (hO : rtO O S W) (hv : alV (rtV Lk) v) (hg : rtG S (awS (rtS Lk O S) v (rt0 Lk O S W))) : ∃ u, alV (rtV Lk) u ∧ u.length ≤ 36 * S ∧ rtG S (awS (rtS Lk O S) u (rt0 Lk O S W)) := by
  have hg : (awS (rtS Lk O S) v (rt0 Lk O S W)).2 = S := hg
  have key : ∀ k, k ≤ S → ∃ u, alV (rtV Lk) u ∧ u.length ≤ 36 * k ∧ k ≤ (awS (rtS Lk O S) u (rt0 Lk O S W)).2 := by
    intro k
    induction k with
    | zero => exact fun _ => ⟨[], alV_0, Nat.le_refl _, Nat.zero_le _⟩
    | succ k ih =>
      intro hk
      obtain ⟨u, u1, u2, u3⟩ := ih (by omega)
      by_cases c : k + 1 ≤ (awS (rtS Lk O S) u (rt0 Lk O S W)).2
      · exact ⟨u, u1, by omega, c⟩
      · have ed : (awS (rtS Lk O S) u (rt0 Lk O S W)).2 = k := by omega
        have hn := rtC_n (rtC_v u _ (rtC_0 (W := W))) (by rw [ed]; omega)
        rw [ed] at hn
        obtain ⟨u', p1, p2⟩ := rt_n v hv (show k < _ by rw [hg]; omega)
        cases ho : O k with
        | none =>
          unfold rtQq at hn
          rw [ho] at hn
          have hn : true = false := hn
          exact absurd hn (by decide)
        | some ab =>
          obtain ⟨a, b⟩ := ab
          obtain ⟨ha, hb⟩ := hO k a b (by omega) ho
          have q2 : Lk (awS swx u' a) (awS swx u' b) = true := by
            unfold rtQq at p2
            rw [ho] at p2
            have p2 : Lk ((awS (rtS Lk O S) u' (rt0 Lk O S W)).1.getD a 0) ((awS (rtS Lk O S) u' (rt0 Lk O S W)).1.getD b 0) = true := p2
            rw [rt_a ha, rt_a hb] at p2
            exact p2
          have ur : alV (rtV Lk) u.reverse := fun g hg => u1 g (List.mem_reverse.mp hg)
          obtain ⟨z, z1, z2, z3, z4⟩ := aws_c _ (u.reverse ++ u') rfl (alV_a ur p1) (awS swx u a) (awS swx u b) (aws_6 u u1 (by omega)) (aws_6 u u1 (by omega))
          rw [aw_a, aws_r u u1 (by omega)] at z3 z4
          refine ⟨u ++ z, alV_a u1 z1, by rw [List.length_append]; omega, ?_⟩
          apply Classical.byContradiction
          intro w
          have g1 : k ≤ (awS (rtS Lk O S) (u ++ z) (rt0 Lk O S W)).2 := by
            rw [aw_a]
            exact Nat.le_trans u3 (rt_d z _)
          have ed2 : (awS (rtS Lk O S) (u ++ z) (rt0 Lk O S W)).2 = k := by omega
          have hn2 := rtC_n (rtC_v (u ++ z) _ (rtC_0 (W := W))) (by rw [ed2]; omega)
          rw [ed2] at hn2
          unfold rtQq at hn2
          rw [ho] at hn2
          have hn2 : Lk ((awS (rtS Lk O S) (u ++ z) (rt0 Lk O S W)).1.getD a 0) ((awS (rtS Lk O S) (u ++ z) (rt0 Lk O S W)).1.getD b 0) = false := hn2
          rw [rt_a ha, rt_a hb, aw_a, aw_a, z3, z4, q2] at hn2
          exact absurd hn2 (by decide)
  obtain ⟨u, u1, u2, u3⟩ := key S (Nat.le_refl _)
  exact ⟨u, u1, u2, Nat.le_antisymm (rt_s u _ (ad_le (Nat.zero_le _))) u3⟩
end RTB
