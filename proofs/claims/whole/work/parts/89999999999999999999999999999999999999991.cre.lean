/-! circuit: the class reads GATES -/
def askN (a : Nat × Nat) : Nat := a.1 + 16 * a.2
/-- the OP of a GATE, of m, of r -/
def evX (a : Nat × Nat) (e : Ev) : bk_X := if e.1 = 0 then (if e.2.2.2.1 = true then ikN e.2.1 else e.2.1, e.2.2.2.2.2.getD 0 0, if e.2.1 = 8 then e.2.2.2.2.2.getD 1 0 else 0, mskL e.2.2.2.2.1, a.1, a.2) else (e.2.1, e.2.2.2.2.2.getD 0 0, e.2.2.1, 0, a.1, a.2)
/-- what reading a STATEMENT may change -/
def rdrF (M N : mm_M) : Prop := (∀ k, k ≠ 2 → k ≠ 3 → N.1 k = M.1 k) ∧ (∀ y, [8, 9, 12, 16, 17, 18, 19].contains y = false → N.1 2 y = M.1 2 y) ∧ N.2 = M.2
theorem rdrF_r (M : mm_M) : rdrF M M := ⟨fun _ _ _ => rfl, fun _ _ => rfl, rfl⟩
theorem rdrF_t {M N K : mm_M} (h : rdrF M N) (g : rdrF N K) : rdrF M K := ⟨fun k a b => (g.1 k a b).trans (h.1 k a b), fun y a => (g.2.1 y a).trans (h.2.1 y a), g.2.2.trans h.2.2⟩
theorem rdrF_2 {S : List Nat} {M N : mm_M} (hs : ∀ y ∈ S, [8, 9, 12, 16, 17, 18, 19].contains y = true) (h : r2F S M N) : rdrF M N := ⟨fun k a _ => h.1 k a, fun y hy => (r2F_w hs h).2.1 y hy, h.2.2⟩
theorem rdrF_a {M N : mm_M} (h : apF M N) : rdrF M N := ⟨fun k a b => h.1 k a b, fun y hy => h.2.1 y (fun e => by rw [e] at hy; exact absurd hy (by decide)), h.2.2⟩
theorem msk_l : ∀ (cs : List Nat) (a : Nat), a < 256 → (∀ w ∈ cs, w < 8) → cs.foldl (fun a w => a ||| 2 ^ w) a < 256
  | [], _, h, _ => h
  | w :: cs, a, h, hw => msk_l cs (a ||| 2 ^ w) (Nat.or_lt_two_pow (n := 8) h (Nat.pow_lt_pow_right (by decide) (hw w List.mem_cons_self))) (fun x hx => hw x (List.mem_cons_of_mem _ hx))
theorem opC_f {M N : mm_M} {O : List bk_X} (e1 : N.1 2 12 = M.1 2 12) (e2 : N.1 3 = M.1 3) (h : opC M O) : opC N O := by
  unfold opC at h ⊢
  rw [e1, e2]
  exact h
theorem opC_2 {S : List Nat} {M N : mm_M} {O : List bk_X} (hs : S.contains 12 = false) (h : r2F S M N) (g : opC M O) : opC N O := opC_f (h.2.1 12 hs) (h.1 3 (by decide)) g
section CRG
variable {d : Nat} {M : mm_M} {T : Nat → Nat} {t : Nat}
set_option maxRecDepth 100000 in
theorem ct_packM {a w s c : Nat} (ha : a < 16) (hw : w < 8) (hs : s < 8) : am_M (d + 1) false nm_X0_pack [aI (nI a), aI (nI w), aI (nI s), aI (nI c)] M (am_q1 (aI (nI (a + 16 * w + 128 * s + 1024 * (c % 256)))) M) := by
  refine ⟨rfl, rfl, rfl, fun X hX => am_run hX 20 _ _ _ _ ?_⟩
  conv => whnf
  refine ⟨trivial, ?_, rfl⟩
  have hc : c % 256 < 256 := Nat.mod_lt _ (by decide)
  have e : nI a ||| (nI w &&& 7) <<< ((4 : Int32) &&& 31) ||| (nI s &&& 7) <<< ((7 : Int32) &&& 31) ||| (nI c &&& 255) <<< ((10 : Int32) &&& 31) = nI (a + 16 * w + 128 * s + 1024 * (c % 256)) := by
    have e1 : a ||| w * 2 ^ 4 = a + w * 16 := or_sh (k := 4) ha
    have e2 : a + w * 16 ||| s * 2 ^ 7 = a + w * 16 + s * 128 := or_sh (k := 7) (by show _ < 128; omega)
    have e3 : a + w * 16 + s * 128 ||| c % 256 * 2 ^ 10 = a + w * 16 + s * 128 + c % 256 * 1024 := or_sh (k := 10) (by show _ < 1024; omega)
    rw [nI_m7, nI_m7, nI_m255, Nat.mod_eq_of_lt hw, Nat.mod_eq_of_lt hs, show nI w <<< ((4 : Int32) &&& 31) = nI (w * 2 ^ 4) from nI_shl (by decide) (by show w * 16 < 4294967296; omega), show nI s <<< ((7 : Int32) &&& 31) = nI (s * 2 ^ 7) from nI_shl (by decide) (by show s * 128 < 4294967296; omega), show nI (c % 256) <<< ((10 : Int32) &&& 31) = nI (c % 256 * 2 ^ 10) from nI_shl (by decide) (by show c % 256 * 1024 < 4294967296; omega), nI_or, nI_or, nI_or, e1, e2, e3]
    congr 1
    omega
  exact congrArg (fun v => (.inl (some (aI v)) : am_R)) e
set_option maxRecDepth 100000 in
theorem ct_packX {a w s c : Int32} : am_M (d + 1) false nm_X0_pack [aI a, aI w, aI s, aI c] M (fun r N => ∃ v, r = .inl (some (aI v)) ∧ N = M) := by
  refine ⟨rfl, rfl, rfl, fun X hX => am_run hX 20 _ _ _ _ ?_⟩
  conv => whnf
  exact ⟨trivial, _, rfl, rfl⟩
theorem pk_ask {y as : Nat} (hy : y < 2 ^ 18) (ha : as < 256) : nI y ||| nI as <<< ((18 : Int32) &&& 31) = nI (y + 262144 * as) := by
  rw [show nI as <<< ((18 : Int32) &&& 31) = nI (as * 2 ^ 18) from nI_shl (by decide) (by show as * 262144 < 4294967296; omega), nI_or, or_sh (k := 18) hy]
  congr 1
  show y + as * 262144 = _
  omega
/-- an OP is laid out, if there is no FAULT -/
theorem ap_end {P : am_Q} {X : am_X} {pc' : Nat} {L : am_L} {st : List am_V} {O : List bk_X} {x : bk_X} {k w s cm f : Nat} {a : Nat × Nat} (hx : x = (k, w, s, cm % 256, a.1, a.2)) (ha : a.1 < 16 ∧ a.2 < 16) (h14 : M.1 2 14 = nI (askN a)) (h19 : M.1 2 19 = nI f) (hf : f < 2 ^ 20) (hO : opC M O) (hv : f = 0 → k < 16 ∧ w < 8 ∧ s < 8) (hK : ∀ N, apF M N → opC N (if f = 0 then O ++ [x] else O) → X pc' L st N) : ∃ q : am_Q, am_M (d + 1) false nm_X0_pack [aI (nI k), aI (nI w), aI (nI s), aI (nI cm)] M q ∧ ∀ r M', q r M' → ∃ v, r = .inl (some (aI v)) ∧ M' = M ∧ ∃ q2 : am_Q, am_M (d + 1) false nm_X5_append [aR 2, aI v] M q2 ∧ ∀ r2 N, q2 r2 N → r2 = .inl none ∧ X pc' L st N := by
  by_cases f0 : f = 0
  · obtain ⟨k16, w8, s8⟩ := hv f0
    refine ⟨_, ct_packM (d := d) (M := M) (c := cm) k16 w8 s8, fun r M' q => ⟨_, q.1, q.2, ?_⟩⟩
    have hc : cm % 256 < 256 := Nat.mod_lt _ (by decide)
    have e : nI (k + 16 * w + 128 * s + 1024 * (cm % 256)) ||| nI (askN a) <<< ((18 : Int32) &&& 31) = nI (bk_p x) := by
      unfold askN
      rw [pk_ask (by omega) (by omega), hx]
      unfold bk_p
      congr 1
      simp only
      omega
    refine ⟨_, ct_app0 (d := d) (M := M) (O := O) (x := x) (by rw [h19, f0]; rfl) h14 e hO, fun r2 N q2 => ⟨q2.1, hK N q2.2.1 ?_⟩⟩
    rw [if_pos f0]
    exact q2.2.2
  · refine ⟨_, ct_packX (d := d) (M := M), fun r M' q => ?_⟩
    obtain ⟨v, e1, e2⟩ := q
    refine ⟨v, e1, e2, _, ct_app1 (d := d) (M := M) hf h19 f0, fun r2 N q2 => ⟨q2.1, ?_⟩⟩
    rw [q2.2]
    refine hK M (apF_r M) ?_
    rw [if_neg f0]
    exact hO
end CRG
