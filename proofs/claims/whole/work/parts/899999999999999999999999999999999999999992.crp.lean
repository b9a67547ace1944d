/-! circuit: what STATEMENTS can be -/
theorem msk_t : ∀ (cs : List Nat) (a w : Nat), (cs.foldl (fun a w => a ||| 2 ^ w) a).testBit w = (a.testBit w || decide (w ∈ cs))
  | [], a, w => by
    rw [show decide (w ∈ ([] : List Nat)) = false from decide_eq_false List.not_mem_nil, Bool.or_false]
    rfl
  | x :: cs, a, w => by
    show (cs.foldl (fun a w => a ||| 2 ^ w) (a ||| 2 ^ x)).testBit w = _
    rw [msk_t cs, Nat.testBit_or, Nat.testBit_two_pow, Bool.or_assoc]
    congr 1
    by_cases e : w = x
    · rw [decide_eq_true e.symm, decide_eq_true (show w ∈ x :: cs from by rw [e]; exact List.mem_cons_self)]
      rfl
    · rw [decide_eq_false (fun z => e z.symm), Bool.false_or]
      congr 1
      rw [List.mem_cons]
      exact propext ⟨Or.inr, fun z => z.resolve_left e⟩
theorem mskL_t (cs : List Nat) (w : Nat) : (mskL cs).testBit w = decide (w ∈ cs) := by
  unfold mskL
  rw [msk_t, Nat.zero_testBit, Bool.false_or]
/-- WIRES that are apart -/
def evk (fr : Nat) (L : List Nat) : Prop := L.Nodup ∧ ∀ w ∈ L, w < fr
theorem evk_0 (fr : Nat) : evk fr [] := ⟨List.nodup_nil, fun w h => absurd h List.not_mem_nil⟩
theorem tw_ok {fr f p w : Nat} {L : List Nat} (h : twF fr (mskL L) f p w = 0) (hL : f = 0 → evk fr L) : f = 0 ∧ evk fr (L ++ [w]) := by
  obtain ⟨h1, h2, h3⟩ := twF_0 h
  rw [mskL_t] at h3
  obtain ⟨a, b⟩ := hL h1
  have nw : w ∉ L := of_decide_eq_false h3
  refine ⟨h1, ?_, fun x hx => ?_⟩
  · rw [List.nodup_append]
    refine ⟨a, List.nodup_cons.mpr ⟨List.not_mem_nil, List.nodup_nil⟩, fun x hx y hy e => ?_⟩
    rw [List.mem_singleton.mp hy] at e
    rw [e] at hx
    exact nw hx
  · rcases List.mem_append.mp hx with y | y
    · exact b x y
    · rw [List.mem_singleton.mp y]
      exact h2
section CRR
variable {T : Nat → Nat} {t W : Nat} {c : CX}
theorem pfx_k {fr : Nat} {h' p' i' f' sn' : Nat} {cs' : List Nat} {bk' : Bool} : ∀ (m h p i f : Nat) (cs : List Nat), pfx T t fr m h p i f (mskL cs) cs = .inr (h', p', i', f', sn', cs', bk') → i ≤ t → (f = 0 → evk fr cs) → sn' = mskL cs' ∧ (f' = 0 → f = 0 ∧ evk fr cs') ∧ i ≤ i' ∧ i' ≤ t
  | 0, h, p, i, f, cs, e, it, hk => by
    cases e
    exact ⟨rfl, fun z => ⟨z, hk z⟩, Nat.le_refl _, it⟩
  | m + 1, h, p, i, f, cs, e, it, hk => by
    have e : (if isDg h = true then (if crC T t i = 62 then pfx T t fr m (crC T t (crA T t i)) (crP T t (crA T t i)) (crA T t (crA T t i)) (twF fr (mskL cs) f p (h - 48)) (mskL cs ||| 2 ^ (h - 48)) (cs ++ [h - 48]) else .inl (crP T t i)) else if h = 45 then .inr (crC T t i, crP T t i, crA T t i, f, mskL cs, cs, true) else .inr (h, p, i, f, mskL cs, cs, false)) = Sum.inr (h', p', i', f', sn', cs', bk') := e
    have a1 := cra_1 (T := T) it
    have a2 := cra_1 (T := T) a1.2.1
    split at e
    · split at e
      · rw [← msk_a] at e
        obtain ⟨y1, y2, y3, y4⟩ := pfx_k m _ _ _ _ _ e a2.2.1 (fun z => (tw_ok z hk).2)
        exact ⟨y1, fun z => ⟨(tw_ok (y2 z).1 hk).1, (y2 z).2⟩, by omega, y4⟩
      · cases e
    · split at e
      · cases e
        exact ⟨rfl, fun z => ⟨z, hk z⟩, a1.1, a1.2.1⟩
      · cases e
        exact ⟨rfl, fun z => ⟨z, hk z⟩, Nat.le_refl _, it⟩
theorem usw_k {fr : Nat} {cs : List Nat} : ∀ (m i f : Nat) (ws : List Nat), i ≤ t → (f = 0 → evk fr (cs ++ ws)) → ((usw T t fr m i f (mskL (cs ++ ws)) ws).2.1 = 0 → f = 0 ∧ evk fr (cs ++ (usw T t fr m i f (mskL (cs ++ ws)) ws).2.2)) ∧ i ≤ (usw T t fr m i f (mskL (cs ++ ws)) ws).1 ∧ (usw T t fr m i f (mskL (cs ++ ws)) ws).1 ≤ t
  | 0, i, f, ws, it, hk => ⟨fun z => ⟨z, hk z⟩, Nat.le_refl _, it⟩
  | m + 1, i, f, ws, it, hk => by
    have e : usw T t fr (m + 1) i f (mskL (cs ++ ws)) ws = if isDg (crC T t i) = true then usw T t fr m (crA T t i) (twF fr (mskL (cs ++ ws)) f (crP T t i) (crC T t i - 48)) (mskL (cs ++ ws) ||| 2 ^ (crC T t i - 48)) (ws ++ [crC T t i - 48]) else (i, f, ws) := rfl
    rw [e]
    have a1 := cra_1 (T := T) it
    split
    · rw [← msk_a, List.append_assoc]
      obtain ⟨y1, y2, y3⟩ := usw_k (fr := fr) (cs := cs) m (crA T t i) (twF fr (mskL (cs ++ ws)) f (crP T t i) (crC T t i - 48)) (ws ++ [crC T t i - 48]) a1.2.1 (fun z => by rw [← List.append_assoc]; exact (tw_ok z hk).2)
      exact ⟨fun z => ⟨(tw_ok (y1 z).1 hk).1, (y1 z).2⟩, by omega, y3⟩
    · exact ⟨fun z => ⟨z, hk z⟩, Nat.le_refl _, it⟩
/-- a GATE -/
def isG (c : CX) (e : Ev) (c1 : CX) : Prop := ∃ k bk cs ws i' f', e = evG k bk cs ws ∧ c1 = cxS c i' f' ∧ k ≤ 8 ∧ k ≠ 6 ∧ k ≠ 7 ∧ ws.length = (if k = 8 then 2 else 1) ∧ (f' = 0 → cxF c = 0 ∧ evk (cxW c) (cs ++ ws))
/-- a USE -/
def isU (c : CX) (e : Ev) (c1 : CX) : Prop := ∃ l bk cs ws i' f', e = evU l bk cs ws ∧ c1 = cxS c i' f' ∧ l < 4 ∧ (f' = 0 → cxF c = 0 ∧ cxT c l ≠ 0 ∧ ws.length = cxT c l ∧ evk (cxW c) (cs ++ ws))
def isM (c : CX) (e : Ev) (c1 : CX) : Prop := ∃ k w b i' f', e = evM k w b ∧ c1 = (i', f', cxW c, cxD c, cxR c, true, cxT c) ∧ cxR c = 4 ∧ ((k = 9 ∧ b < 4) ∨ (k = 10 ∧ b = 0)) ∧ (f' = 0 → cxF c = 0 ∧ w < cxW c)
def isB (c : CX) (e : Ev) (c1 : CX) : Prop := ∃ k q i', e = evB k q ∧ c1 = (i', cxF c, cxW c, cxD c + 1, cxR c, cxA c || decide (cxR c = 4), cxT c) ∧ cxD c < 8 ∧ ((k = 14 ∧ 1 ≤ q ∧ q ≤ 9) ∨ ((k = 12 ∨ k = 13) ∧ q < 4 ∧ cxR c = 4))
def isR (c : CX) (e : Ev) (c1 : CX) : Prop := ∃ l k i' f', e = evR' l k ∧ c1 = (i', f', k, cxD c + 1, l, cxA c, cxT c) ∧ cxR c = 4 ∧ cxA c = false ∧ l < 4 ∧ 1 ≤ k ∧ k ≤ 4 ∧ (f' = 0 → cxF c = 0 ∧ cxT c l = 0)
def isC (W : Nat) (c : CX) (e : Ev) (c1 : CX) : Prop := e = evC ∧ cxD c ≠ 0 ∧ ∃ i', ((cxD c = 1 ∧ cxR c ≠ 4 ∧ c1 = (i', cxF c, W, 0, 4, cxA c, fun l => if l = cxR c ∧ cxT c l = 0 then cxW c else cxT c l)) ∨ (¬ (cxD c = 1 ∧ cxR c ≠ 4) ∧ c1 = (i', cxF c, cxW c, cxD c - 1, cxR c, cxA c, cxT c)))
theorem gt_k {k i f : Nat} {cs : List Nat} {bk : Bool} {e : Ev} {c1 : CX} (k8 : k ≤ 8 ∧ k ≠ 6 ∧ k ≠ 7) (it : i ≤ t) (hk : f = 0 → cxF c = 0 ∧ evk (cxW c) cs) (h : gtE T t c k i f (mskL cs) cs bk = .inr (e, c1)) : isG c e c1 ∧ i ≤ cxI c1 ∧ cxI c1 ≤ t := by
  have a1 := cra_1 (T := T) it
  have a2 := cra_1 (T := T) a1.2.1
  have a3 := cra_1 (T := T) a2.2.1
  unfold gtE at h
  split at h
  · split at h
    · rename_i q8
      split at h
      · split at h
        · cases h
          refine ⟨⟨k, bk, cs, _, _, _, rfl, rfl, k8.1, k8.2.1, k8.2.2, by rw [if_pos q8]; rfl, fun z => ?_⟩, ?_, ?_⟩
          · rw [← msk_a] at z
            obtain ⟨y1, y2⟩ := tw_ok z (fun y => (tw_ok y (fun x => (hk x).2)).2)
            obtain ⟨y3, _⟩ := tw_ok y1 (fun x => (hk x).2)
            rw [List.append_assoc] at y2
            exact ⟨(hk y3).1, y2⟩
          · show i ≤ crA T t _
            omega
          · show crA T t _ ≤ t
            omega
        · cases h
      · cases h
    · rename_i q8
      split at h
      · cases h
        refine ⟨⟨k, bk, cs, _, _, _, rfl, rfl, k8.1, k8.2.1, k8.2.2, by rw [if_neg q8]; rfl, fun z => ?_⟩, ?_, ?_⟩
        · obtain ⟨y3, y4⟩ := tw_ok z (fun x => (hk x).2)
          exact ⟨(hk y3).1, y4⟩
        · show i ≤ crA T t _
          omega
        · show crA T t _ ≤ t
          omega
      · cases h
  · cases h
theorem at_k {sg i f : Nat} {cs : List Nat} {bk : Bool} {e : Ev} {c1 : CX} (it : i ≤ t) (hk : f = 0 → cxF c = 0 ∧ evk (cxW c) cs) (h : atE T t c sg i f (mskL cs) cs bk = .inr (e, c1)) : (isU c e c1 ∨ isR c e c1) ∧ i ≤ cxI c1 ∧ cxI c1 ≤ t := by
  have a1 := cra_1 (T := T) it
  have a2 := cra_1 (T := T) a1.2.1
  have a3 := cra_1 (T := T) a2.2.1
  unfold atE at h
  split at h
  · rename_i hn
    split at h
    · split at h
      · split at h
        · rename_i q
          obtain ⟨q1, q2, q3, q4, q5, q6⟩ := q
          cases h
          refine ⟨Or.inr ⟨_, _, _, _, rfl, rfl, q3, q4, by omega, by omega, by omega, fun z => ?_⟩, ?_, ?_⟩
          · by_cases w0 : cxT c (crC T t i - 97) = 0
            · rw [if_pos w0] at z
              exact ⟨(hk z).1, w0⟩
            · rw [if_neg w0] at z
              exact absurd z (ntF_0 (by decide))
          · show i ≤ crA T t _
            omega
          · show crA T t _ ≤ t
            omega
        · cases h
      · generalize hl : crC T t i - 97 = l at h
        generalize hg : crC T t (crA T t i) - 48 = dg at h
        unfold usE at h
        have key := usw_k (T := T) (t := t) (fr := cxW c) (cs := cs) ((if cxT c l = 0 then 4 else cxT c l) - 1) (crA T t (crA T t i)) (twF (cxW c) (mskL cs) (if cxT c l = 0 then ntF f sg 4 else f) (crP T t (crA T t i)) dg) [dg] a2.2.1
        have eQ : usQ T t c l sg dg (crP T t (crA T t i)) (crA T t (crA T t i)) f (mskL cs) = usw T t (cxW c) ((if cxT c l = 0 then 4 else cxT c l) - 1) (crA T t (crA T t i)) (twF (cxW c) (mskL cs) (if cxT c l = 0 then ntF f sg 4 else f) (crP T t (crA T t i)) dg) (mskL (cs ++ [dg])) [dg] := by
          unfold usQ
          rw [msk_a]
        rw [← eQ] at key
        generalize usQ T t c l sg dg (crP T t (crA T t i)) (crA T t (crA T t i)) f (mskL cs) = Q at *
        have fz : (if cxT c l = 0 then ntF f sg 4 else f) = 0 → f = 0 ∧ cxT c l ≠ 0 := by
          intro z
          by_cases w0 : cxT c l = 0
          · rw [if_pos w0] at z
            exact absurd z (ntF_0 (by decide))
          · rw [if_neg w0] at z
            exact ⟨z, w0⟩
        obtain ⟨y1, y2, y3⟩ := key (fun z => (tw_ok z (fun y => (hk (fz y).1).2)).2)
        have a4 := cra_1 (T := T) y3
        split at h
        · rename_i q
          cases h
          refine ⟨Or.inl ⟨l, bk, cs, _, _, _, rfl, rfl, by omega, fun z => ?_⟩, ?_, ?_⟩
          · obtain ⟨z1, z2⟩ := y1 z
            obtain ⟨z3, z4, _⟩ := twF_0 z1
            obtain ⟨z5, z6⟩ := fz z3
            exact ⟨(hk z5).1, z6, q.2.resolve_left z6, z2⟩
          · show i ≤ crA T t Q.1
            omega
          · show crA T t Q.1 ≤ t
            omega
        · cases h
    · cases h
  · cases h
theorem ms_k {k i : Nat} {e : Ev} {c1 : CX} (k9 : k = 9 ∨ k = 10) (r4 : cxR c = 4) (it : i ≤ t) (h : msE T t c k i = .inr (e, c1)) : isM c e c1 ∧ i ≤ cxI c1 ∧ cxI c1 ≤ t := by
  have a1 := cra_1 (T := T) it
  have a2 := cra_1 (T := T) a1.2.1
  have a3 := cra_1 (T := T) a2.2.1
  unfold msE at h
  split at h
  · split at h
    · rename_i q
      split at h
      · rename_i qb
        split at h
        · cases h
          refine ⟨⟨k, _, _, _, _, rfl, rfl, r4, Or.inl ⟨q, by omega⟩, fun z => ⟨(twF_0 z).1, (twF_0 z).2.1⟩⟩, ?_, ?_⟩
          · show i ≤ crA T t _
            omega
          · show crA T t _ ≤ t
            omega
        · cases h
      · cases h
    · rename_i q
      split at h
      · cases h
        refine ⟨⟨k, _, _, _, _, rfl, rfl, r4, Or.inr ⟨k9.resolve_left q, rfl⟩, fun z => ⟨(twF_0 z).1, (twF_0 z).2.1⟩⟩, ?_, ?_⟩
        · show i ≤ crA T t _
          omega
        · show crA T t _ ≤ t
          omega
      · cases h
  · cases h
theorem bl_k {k i : Nat} {e : Ev} {c1 : CX} (k3 : k = 14 ∨ ((k = 12 ∨ k = 13) ∧ cxR c = 4)) (it : i ≤ t) (h : blE T t c k i = .inr (e, c1)) : isB c e c1 ∧ i ≤ cxI c1 ∧ cxI c1 ≤ t := by
  have a1 := cra_1 (T := T) it
  have a2 := cra_1 (T := T) a1.2.1
  unfold blE at h
  split at h
  · rename_i ok
    split at h
    · rename_i q
      cases h
      refine ⟨⟨k, _, _, rfl, rfl, q.2, ?_⟩, ?_, ?_⟩
      · unfold blOk at ok
        rcases k3 with k3 | ⟨k3, r4⟩
        · rw [if_pos k3] at ok
          obtain ⟨o1, o2⟩ := (Bool.and_eq_true _ _).mp ok
          have o1 := of_decide_eq_true o1
          have o2 := of_decide_eq_true o2
          exact Or.inl ⟨k3, by omega, by omega⟩
        · rw [if_neg (by omega)] at ok
          obtain ⟨o1, o2⟩ := (Bool.and_eq_true _ _).mp ok
          have o1 := of_decide_eq_true o1
          have o2 := of_decide_eq_true o2
          exact Or.inr ⟨k3, by omega, r4⟩
      · show i ≤ crA T t _
        omega
      · show crA T t _ ≤ t
        omega
    · cases h
  · cases h
theorem cl_k {p i : Nat} {e : Ev} {c1 : CX} (h : clE W c p i = .inr (e, c1)) : isC W c e c1 ∧ cxI c1 = i := by
  unfold clE at h
  split at h
  · cases h
  · rename_i D0
    split at h
    · rename_i q
      cases h
      exact ⟨⟨rfl, D0, i, Or.inl ⟨q.1, q.2, rfl⟩⟩, rfl⟩
    · rename_i q
      cases h
      exact ⟨⟨rfl, D0, i, Or.inr ⟨q, rfl⟩⟩, rfl⟩
/-- what stands next -/
theorem tk_k {e : Ev} {c1 : CX} (hT : ∀ j, j < t → T j < 127) (it : cxI c ≤ t) (h : tkE T t W c = .inr (e, c1)) : (isG c e c1 ∨ isU c e c1 ∨ isM c e c1 ∨ isB c e c1 ∨ isR c e c1 ∨ isC W c e c1) ∧ cxI c < cxI c1 ∧ cxI c1 ≤ t := by
  have a1 := cra_1 (T := T) it
  have pos : crC T t (cxI c) ≠ 0 → cxI c < crA T t (cxI c) := fun q => a1.2.2 (crn_1 q)
  unfold tkE at h
  split at h
  · cases h
  · rename_i n0
    have r4 : (crC T t (cxI c) = 63 ∨ crC T t (cxI c) = 33 ∨ crC T t (cxI c) = 109 ∨ crC T t (cxI c) = 114) → cxR c = 4 := fun z => Decidable.byContradiction fun y => n0 ⟨z, y⟩
    split at h
    · rename_i q
      obtain ⟨y1, y2⟩ := cl_k h
      have := pos (by rw [q]; decide)
      exact ⟨Or.inr (Or.inr (Or.inr (Or.inr (Or.inr y1)))), by omega, by omega⟩
    · split at h
      · rename_i q
        obtain ⟨y1, y2, y3⟩ := bl_k (Or.inl rfl) a1.2.1 h
        have := pos (by rw [q]; decide)
        exact ⟨Or.inr (Or.inr (Or.inr (Or.inl y1))), by omega, y3⟩
      · split at h
        · rename_i q
          obtain ⟨y1, y2, y3⟩ := bl_k (Or.inr ⟨Or.inl rfl, r4 (Or.inl q)⟩) a1.2.1 h
          have := pos (by rw [q]; decide)
          exact ⟨Or.inr (Or.inr (Or.inr (Or.inl y1))), by omega, y3⟩
        · split at h
          · rename_i q
            obtain ⟨y1, y2, y3⟩ := bl_k (Or.inr ⟨Or.inr rfl, r4 (Or.inr (Or.inl q))⟩) a1.2.1 h
            have := pos (by rw [q]; decide)
            exact ⟨Or.inr (Or.inr (Or.inr (Or.inl y1))), by omega, y3⟩
          · split at h
            · rename_i q
              obtain ⟨y1, y2, y3⟩ := ms_k (Or.inl rfl) (r4 (Or.inr (Or.inr (Or.inl q)))) a1.2.1 h
              have := pos (by rw [q]; decide)
              exact ⟨Or.inr (Or.inr (Or.inl y1)), by omega, y3⟩
            · split at h
              · rename_i q
                obtain ⟨y1, y2, y3⟩ := ms_k (Or.inr rfl) (r4 (Or.inr (Or.inr (Or.inr q)))) a1.2.1 h
                have := pos (by rw [q]; decide)
                exact ⟨Or.inr (Or.inr (Or.inl y1)), by omega, y3⟩
              · by_cases c0 : crC T t (cxI c) = 0
                · rw [c0] at h
                  have e0 : pfx T t (cxW c) 400 0 (crP T t (cxI c)) (crA T t (cxI c)) (cxF c) 0 [] = .inr (0, crP T t (cxI c), crA T t (cxI c), cxF c, 0, [], false) := rfl
                  rw [e0] at h
                  cases h
                · have ps := pos c0
                  generalize hy : pfx T t (cxW c) 400 (crC T t (cxI c)) (crP T t (cxI c)) (crA T t (cxI c)) (cxF c) 0 [] = y at h
                  cases y with
                  | inl q => cases h
                  | inr y =>
                    obtain ⟨h', p', i', f', sn', cs, bk⟩ := y
                    obtain ⟨y1, y2, y3, y4⟩ := pfx_k (T := T) (t := t) 400 _ _ _ _ [] hy a1.2.1 (fun _ => evk_0 _)
                    subst y1
                    have h : (if h' = 64 then atE T t c p' i' f' (mskL cs) cs bk else if kcN h' = 99 then .inl p' else gtE T t c (kcN h') i' f' (mskL cs) cs bk) = Sum.inr (e, c1) := h
                    split at h
                    · obtain ⟨z1, z2, z3⟩ := at_k y4 y2 h
                      rcases z1 with z1 | z1
                      · exact ⟨Or.inr (Or.inl z1), by omega, z3⟩
                      · exact ⟨Or.inr (Or.inr (Or.inr (Or.inr (Or.inl z1)))), by omega, z3⟩
                    · split at h
                      · cases h
                      · rename_i k99
                        have kw : kcN h' ≤ 8 ∧ kcN h' ≠ 6 ∧ kcN h' ≠ 7 := by
                          revert k99
                          unfold kcN
                          repeat' split
                          all_goals first | omega | (intro z; exact absurd rfl z)
                        obtain ⟨z1, z2, z3⟩ := gt_k kw y4 y2 h
                        exact ⟨Or.inl z1, by omega, z3⟩
end CRR
