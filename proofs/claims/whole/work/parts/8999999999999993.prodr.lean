/-! PRODUCTS of SUMS: the reference's addTerms -/
section ATR
variable {d : Nat} {M : mm_M}
theorem xor_hi (a b : Nat) : (a ^^^ b) / 256 = a / 256 ^^^ b / 256 := Nat.xor_div_two_pow (n := 8)
theorem xor_lo (a b : Nat) : (a ^^^ b) % 256 = a % 256 ^^^ b % 256 := Nat.xor_mod_two_pow (n := 8)
theorem tq_e {a b : Nat} (ha : a < 65536) (hb : b < 65536) : (nI (pc (a / 256 &&& a % 256)) + nI (pc (b / 256 &&& b % 256)) - nI (pc (((a ^^^ b) / 256 &&& (a ^^^ b)) % 256)) + 2 * nI (pc (a % 256 &&& b / 256))) &&& 3 = nI (tq a b) := by
  have hx : a ^^^ b < 65536 := Nat.xor_lt_two_pow (n := 16) ha hb
  have e1 : ((a ^^^ b) / 256 &&& (a ^^^ b)) % 256 = (a / 256 ^^^ b / 256) &&& (a % 256 ^^^ b % 256) := by
    rw [← xor_hi, ← xor_lo, and_m (by omega)]
    exact Nat.mod_eq_of_lt (Nat.lt_of_le_of_lt Nat.and_le_left (by omega))
  have e2 : ∀ x y z : Int32, x - y + z = x + z - y := fun x y z => by
    rw [Int32.sub_eq_add_neg, Int32.sub_eq_add_neg, Int32.add_assoc, Int32.add_assoc, Int32.add_comm (-y) z]
  rw [e1, e2, show (2 : Int32) = nI 2 from rfl, nI_mul, nI_add, nI_add, nI_q (Nat.le_trans (pc_b _) (by decide))]
  rfl
set_option maxRecDepth 100000 in
theorem at_0 {ka kb : Nat} {N : mm_M} {Pp : am_Q} {X : am_X} {p r u v : Int64} (hX : am_K (d + 1) false nm_X12_addTerms Pp X) (ha : ka < 65536) (hb : kb < 65536) (hK : X 106 [some (aR 108), some (aI (nI ka)), some (aJ p), none, some (aJ r), none, some (aI (nI kb)), some (aJ u), none, some (aJ v), none, some (aI (nI (ka / 256))), some (aI (nI (ka % 256))), some (aI (nI (kb / 256))), some (aI (nI (kb % 256))), some (aI (nI (ka ^^^ kb))), some (aI (nI (tq ka kb))), some (aJ (p * u - r * v)), none, some (aJ (p * v + r * u)), none] [] N) : X 0 [some (aR 108), some (aI (nI ka)), some (aJ p), none, some (aJ r), none, some (aI (nI kb)), some (aJ u), none, some (aJ v), none, none, none, none, none, none, none, none, none, none, none] [] N := by
  have hx : ka ^^^ kb < 65536 := Nat.xor_lt_two_pow (n := 16) ha hb
  have b1 : ka / 256 &&& ka % 256 < 2 ^ 20 := Nat.lt_of_le_of_lt Nat.and_le_left (by omega)
  have b2 : kb / 256 &&& kb % 256 < 2 ^ 20 := Nat.lt_of_le_of_lt Nat.and_le_left (by omega)
  have b3 : ((ka ^^^ kb) / 256 &&& (ka ^^^ kb)) % 256 < 2 ^ 20 := by omega
  have b4 : ka % 256 &&& kb / 256 < 2 ^ 20 := Nat.lt_of_le_of_lt Nat.and_le_left (by omega)
  have et := tq_e ha hb
  refine am_run hX 64 _ _ _ _ ?_
  conv => whnf
  rw [nI_s8 (by omega), nI_m255, nI_and]
  refine am_c1 (ct_count d _ b1 _) ?_
  conv => whnf
  rw [nI_s8 (by omega), nI_m255, nI_and]
  refine am_c1 (ct_count d _ b2 _) ?_
  conv => whnf
  rw [nI_xor, nI_s8 (by omega), nI_and, nI_m255]
  refine am_c1 (ct_count d _ b3 _) ?_
  conv => whnf
  rw [nI_and]
  refine am_c1 (ct_count d _ b4 _) ?_
  conv => whnf
  rw [et]
  exact hK
set_option maxRecDepth 100000 in
theorem at_s0 {N : mm_M} {Pp q' : am_Q} {X : am_X} {k1 k2 v1 v2 v3 v4 v5 : Int32} {p r u v m n : Int64} (hX : am_K (d + 1) false nm_X12_addTerms Pp X) (kw : am_M (d + 1) false nm_X12_work [aR 108, aI v5, aJ (rtP 0 m n), aJ (rtQ 0 m n)] N q') (hq : ∀ r M', q' r M' → r = .inl none ∧ Pp (.inl none) M') : X 106 [some (aR 108), some (aI k1), some (aJ p), none, some (aJ r), none, some (aI k2), some (aJ u), none, some (aJ v), none, some (aI v1), some (aI v2), some (aI v3), some (aI v4), some (aI v5), some (aI (nI 0)), some (aJ m), none, some (aJ n), none] [] N := by
  refine am_run hX 40 _ _ _ _ ?_
  conv => whnf
  refine ⟨fun c => absurd rfl c, fun _ => ?_⟩
  conv => whnf
  refine ⟨fun c => absurd rfl c, fun _ => ?_⟩
  conv => whnf
  refine am_cq kw ?_
  intro r' M' h
  obtain ⟨rfl, h2⟩ := hq r' M' h
  refine ⟨none, rfl, ?_⟩
  conv => whnf
  exact ⟨trivial, h2⟩
set_option maxRecDepth 100000 in
theorem at_s1 {N : mm_M} {Pp q' : am_Q} {X : am_X} {k1 k2 v1 v2 v3 v4 v5 : Int32} {p r u v m n : Int64} (hX : am_K (d + 1) false nm_X12_addTerms Pp X) (kw : am_M (d + 1) false nm_X12_work [aR 108, aI v5, aJ (rtP 1 m n), aJ (rtQ 1 m n)] N q') (hq : ∀ r M', q' r M' → r = .inl none ∧ Pp (.inl none) M') : X 106 [some (aR 108), some (aI k1), some (aJ p), none, some (aJ r), none, some (aI k2), some (aJ u), none, some (aJ v), none, some (aI v1), some (aI v2), some (aI v3), some (aI v4), some (aI v5), some (aI (nI 1)), some (aJ m), none, some (aJ n), none] [] N := by
  refine am_run hX 40 _ _ _ _ ?_
  conv => whnf
  refine ⟨fun _ => ?_, fun c => absurd (by decide) c⟩
  conv => whnf
  refine ⟨fun c => absurd rfl c, fun _ => ?_⟩
  conv => whnf
  refine ⟨fun _ => ?_, fun c => absurd (by decide) c⟩
  conv => whnf
  refine ⟨fun c => absurd rfl c, fun _ => ?_⟩
  conv => whnf
  refine am_cq kw ?_
  intro r' M' h
  obtain ⟨rfl, h2⟩ := hq r' M' h
  refine ⟨none, rfl, ?_⟩
  conv => whnf
  exact ⟨trivial, h2⟩
set_option maxRecDepth 100000 in
theorem at_s2 {N : mm_M} {Pp q' : am_Q} {X : am_X} {k1 k2 v1 v2 v3 v4 v5 : Int32} {p r u v m n : Int64} (hX : am_K (d + 1) false nm_X12_addTerms Pp X) (kw : am_M (d + 1) false nm_X12_work [aR 108, aI v5, aJ (rtP 2 m n), aJ (rtQ 2 m n)] N q') (hq : ∀ r M', q' r M' → r = .inl none ∧ Pp (.inl none) M') : X 106 [some (aR 108), some (aI k1), some (aJ p), none, some (aJ r), none, some (aI k2), some (aJ u), none, some (aJ v), none, some (aI v1), some (aI v2), some (aI v3), some (aI v4), some (aI v5), some (aI (nI 2)), some (aJ m), none, some (aJ n), none] [] N := by
  refine am_run hX 40 _ _ _ _ ?_
  conv => whnf
  refine ⟨fun _ => ?_, fun c => absurd (by decide) c⟩
  conv => whnf
  refine ⟨fun _ => ?_, fun c => absurd (by decide) c⟩
  conv => whnf
  refine ⟨fun c => absurd rfl c, fun _ => ?_⟩
  conv => whnf
  refine ⟨fun _ => ?_, fun c => absurd (by decide) c⟩
  conv => whnf
  refine ⟨fun _ => ?_, fun c => absurd (by decide) c⟩
  conv => whnf
  refine ⟨fun c => absurd rfl c, fun _ => ?_⟩
  conv => whnf
  refine am_cq kw ?_
  intro r' M' h
  obtain ⟨rfl, h2⟩ := hq r' M' h
  refine ⟨none, rfl, ?_⟩
  conv => whnf
  exact ⟨trivial, h2⟩
set_option maxRecDepth 100000 in
theorem at_s3 {N : mm_M} {Pp q' : am_Q} {X : am_X} {k1 k2 v1 v2 v3 v4 v5 : Int32} {p r u v m n : Int64} (hX : am_K (d + 1) false nm_X12_addTerms Pp X) (kw : am_M (d + 1) false nm_X12_work [aR 108, aI v5, aJ (rtP 3 m n), aJ (rtQ 3 m n)] N q') (hq : ∀ r M', q' r M' → r = .inl none ∧ Pp (.inl none) M') : X 106 [some (aR 108), some (aI k1), some (aJ p), none, some (aJ r), none, some (aI k2), some (aJ u), none, some (aJ v), none, some (aI v1), some (aI v2), some (aI v3), some (aI v4), some (aI v5), some (aI (nI 3)), some (aJ m), none, some (aJ n), none] [] N := by
  refine am_run hX 40 _ _ _ _ ?_
  conv => whnf
  refine ⟨fun _ => ?_, fun c => absurd (by decide) c⟩
  conv => whnf
  refine ⟨fun _ => ?_, fun c => absurd (by decide) c⟩
  conv => whnf
  refine ⟨fun _ => ?_, fun c => absurd (by decide) c⟩
  conv => whnf
  refine ⟨fun _ => ?_, fun c => absurd (by decide) c⟩
  conv => whnf
  refine ⟨fun _ => ?_, fun c => absurd (by decide) c⟩
  conv => whnf
  refine ⟨fun _ => ?_, fun c => absurd (by decide) c⟩
  conv => whnf
  refine am_cq kw ?_
  intro r' M' h
  obtain ⟨rfl, h2⟩ := hq r' M' h
  refine ⟨none, rfl, ?_⟩
  conv => whnf
  exact ⟨trivial, h2⟩
theorem ct_atR {n ka kb : Nat} {q t : Nat → Int32} {f g : Nat → Int64} {kk : Nat → Nat} {p r u v : Int64} (hw : wkO n q t f g kk) (hn : n < 22501) (ha : ka < 65536) (hb : kb < 65536) : am_M (d + 2) false nm_X12_addTerms [aR 108, aI (nI ka), aJ p, aJ r, aI (nI kb), aJ u, aJ v] (wF M n q t f g) (fun r' M' => r' = .inl none ∧ ∃ n' q' t' kk', n' ≤ n + 1 ∧ wkO n' q' t' (vp_updL f (ka ^^^ kb) (f (ka ^^^ kb) + rtP (tq ka kb) (p * u - r * v) (p * v + r * u))) (vp_updL g (ka ^^^ kb) (g (ka ^^^ kb) + rtQ (tq ka kb) (p * u - r * v) (p * v + r * u))) kk' ∧ M' = wF M n' q' t' (vp_updL f (ka ^^^ kb) (f (ka ^^^ kb) + rtP (tq ka kb) (p * u - r * v) (p * v + r * u))) (vp_updL g (ka ^^^ kb) (g (ka ^^^ kb) + rtQ (tq ka kb) (p * u - r * v) (p * v + r * u)))) := by
  have hx : ka ^^^ kb < 65536 := Nat.xor_lt_two_pow (n := 16) ha hb
  have h4 := tq_lt ka kb
  have kw : ∀ P R : Int64, am_M (d + 1) false nm_X12_work [aR 108, aI (nI (ka ^^^ kb)), aJ P, aJ R] (wF M n q t f g) _ := fun P R => ct_workR (d := d) (M := M) (p := P) (r := R) hw hn hx
  refine ⟨rfl, rfl, rfl, fun X hX => at_0 (d := d) hX ha hb ?_⟩
  generalize tq ka kb = k at *
  obtain rfl | rfl | rfl | rfl : k = 0 ∨ k = 1 ∨ k = 2 ∨ k = 3 := by omega
  · exact at_s0 (d := d) hX (kw _ _) fun r M' h => ⟨h.1, rfl, h.2⟩
  · exact at_s1 (d := d) hX (kw _ _) fun r M' h => ⟨h.1, rfl, h.2⟩
  · exact at_s2 (d := d) hX (kw _ _) fun r M' h => ⟨h.1, rfl, h.2⟩
  · exact at_s3 (d := d) hX (kw _ _) fun r M' h => ⟨h.1, rfl, h.2⟩
end ATR
/-- the product's numbers, by keys -/
def e2 (K : Nat → Nat → Nat) (T : Nat → Nat → Int64) (x i j : Nat) : Int64 := if K i j = x then T i j else 0
def dbl (K : Nat → Nat → Nat) (T : Nat → Nat → Int64) (s x i : Nat) : Int64 := sumJ (fun i => sumJ (fun j => e2 K T x i j) s) i
/-- the work row, so far -/
def wkS (K : Nat → Nat → Nat) (T U : Nat → Nat → Int64) (s i j : Nat) (f g : Nat → Int64) : Prop := ∀ x, x < 65536 → f x = dbl K T s x i + sumJ (fun j => e2 K T x i j) j ∧ g x = dbl K U s x i + sumJ (fun j => e2 K U x i j) j
section WKS
variable {K : Nat → Nat → Nat} {T U : Nat → Nat → Int64} {s i j : Nat} {f g : Nat → Int64}
theorem wkS_0 (h : ∀ x, x < 65536 → f x = 0 ∧ g x = 0) : wkS K T U s 0 0 f g := fun x hx => by
  show f x = 0 + 0 ∧ g x = 0 + 0
  rw [(h x hx).1, (h x hx).2]
  exact ⟨rfl, rfl⟩
theorem e2_s {f : Nat → Int64} {F : Nat → Int64} {x : Nat} (h : f x = F x) : vp_updL f (K i j) (f (K i j) + T i j) x = F x + e2 K T x i j := by
  unfold vp_updL e2
  by_cases e : x = K i j
  · rw [if_pos e, if_pos e.symm, ← e, h]
  · rw [if_neg e, if_neg fun z => e z.symm, h, Int64.add_zero]
theorem wkS_s (h : wkS K T U s i j f g) : wkS K T U s i (j + 1) (vp_updL f (K i j) (f (K i j) + T i j)) (vp_updL g (K i j) (g (K i j) + U i j)) := fun x hx => by
  obtain ⟨h1, h2⟩ := h x hx
  rw [e2_s (F := fun x => dbl K T s x i + sumJ (fun j => e2 K T x i j) j) h1, e2_s (F := fun x => dbl K U s x i + sumJ (fun j => e2 K U x i j) j) h2]
  exact ⟨Int64.add_assoc _ _ _, Int64.add_assoc _ _ _⟩
theorem wkS_n (h : wkS K T U s i s f g) : wkS K T U s (i + 1) 0 f g := fun x hx => by
  obtain ⟨h1, h2⟩ := h x hx
  rw [h1, h2]
  show _ = (dbl K T s x i + sumJ (fun j => e2 K T x i j) s) + 0 ∧ _ = (dbl K U s x i + sumJ (fun j => e2 K U x i j) s) + 0
  rw [Int64.add_zero, Int64.add_zero]
  exact ⟨rfl, rfl⟩
end WKS
