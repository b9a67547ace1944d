/-! THE ENGINE: steps one behind another -/
theorem xm_i_m {st : List Value} {k k' : Int32 → List Value → Prop} (m : ∀ a r, k a r → k' a r) (h : xm_i st k) : xm_i st k' := by
  obtain ⟨a, r, rfl, h⟩ := xm_i_e h; exact m _ _ h
theorem xm_ii_m {st : List Value} {k k' : Int32 → Int32 → List Value → Prop} (m : ∀ a b r, k a b r → k' a b r) (h : xm_ii st k) : xm_ii st k' := by
  obtain ⟨a, b, r, rfl, h⟩ := xm_ii_e h; exact m _ _ _ h
theorem xm_l_m {st : List Value} {k k' : Int64 → List Value → Prop} (m : ∀ a r, k a r → k' a r) (h : xm_l st k) : xm_l st k' := by
  obtain ⟨a, r, rfl, h⟩ := xm_l_e h; exact m _ _ h
theorem xm_ll_m {st : List Value} {k k' : Int64 → Int64 → List Value → Prop} (m : ∀ a b r, k a b r → k' a b r) (h : xm_ll st k) : xm_ll st k' := by
  obtain ⟨a, b, r, rfl, h⟩ := xm_ll_e h; exact m _ _ _ h
theorem xm_li_m {st : List Value} {k k' : Int64 → Int32 → List Value → Prop} (m : ∀ a b r, k a b r → k' a b r) (h : xm_li st k) : xm_li st k' := by
  obtain ⟨a, b, r, rfl, h⟩ := xm_li_e h; exact m _ _ _ h
theorem xm_a_m {st : List Value} {k k' : Nat → List Value → Prop} (m : ∀ a r, k a r → k' a r) (h : xm_a st k) : xm_a st k' := by
  obtain ⟨a, r, rfl, h⟩ := xm_a_e h; exact m _ _ h
theorem xm_n_m {st : List Value} {kn kn' : List Value → Prop} {k k' : Nat → List Value → Prop} (mn : ∀ r, kn r → kn' r) (m : ∀ a r, k a r → k' a r) (h : xm_n st kn k) : xm_n st kn' k' := by
  rcases xm_n_e h with ⟨a, r, rfl, h⟩ | ⟨r, rfl, h⟩
  · exact m _ _ h
  · exact mn _ h
theorem xm_ai_m {st : List Value} {k k' : Nat → Int32 → List Value → Prop} (m : ∀ a i r, k a i r → k' a i r) (h : xm_ai st k) : xm_ai st k' := by
  obtain ⟨a, i, r, rfl, h⟩ := xm_ai_e h; exact m _ _ _ h
theorem xm_aii_m {st : List Value} {k k' : Nat → Int32 → Int32 → List Value → Prop} (m : ∀ a i u r, k a i u r → k' a i u r) (h : xm_aii st k) : xm_aii st k' := by
  obtain ⟨a, i, u, r, rfl, h⟩ := xm_aii_e h; exact m _ _ _ _ h
theorem xm_ail_m {st : List Value} {k k' : Nat → Int32 → Int64 → List Value → Prop} (m : ∀ a i u r, k a i u r → k' a i u r) (h : xm_ail st k) : xm_ail st k' := by
  obtain ⟨a, i, u, r, rfl, h⟩ := xm_ail_e h; exact m _ _ _ _ h
theorem xm_av_m {st : List Value} {k k' : Nat → Value → List Value → Prop} (m : ∀ a u r, k a u r → k' a u r) (h : xm_av st k) : xm_av st k' := by
  obtain ⟨a, u, r, rfl, h⟩ := xm_av_e h; exact m _ _ _ h
theorem xm_Li_m {L : xm_L} {x : Nat} {k k' : Int32 → Prop} (m : ∀ a, k a → k' a) (h : xm_Li L x k) : xm_Li L x k' := by
  obtain ⟨a, ha, h⟩ := xm_Li_e h; unfold xm_Li; rw [ha]; exact m _ h
theorem xm_Ll_m {L : xm_L} {x : Nat} {k k' : Int64 → Prop} (m : ∀ a, k a → k' a) (h : xm_Ll L x k) : xm_Ll L x k' := by
  obtain ⟨a, ha, h⟩ := xm_Ll_e h; unfold xm_Ll; rw [ha]; exact m _ h
theorem xm_La_m {L : xm_L} {x : Nat} {kn kn' : Prop} {k k' : Nat → Prop} (mn : kn → kn') (m : ∀ a, k a → k' a) (h : xm_La L x kn k) : xm_La L x kn' k' := by
  rcases xm_La_e h with ⟨a, ha, h⟩ | ⟨ha, h⟩
  · unfold xm_La; rw [ha]; exact m _ h
  · unfold xm_La; rw [ha]; exact mn h
theorem xm_Ai_m {h : xm_H} {cA : ClassId} {a : Nat} {k k' : Nat → (Nat → Int32) → Prop} (m : ∀ n f, k n f → k' n f) (q : xm_Ai h cA a k) : xm_Ai h cA a k' := by
  obtain ⟨n, f, ha, q⟩ := xm_Ai_e q; unfold xm_Ai; rw [ha]; exact ⟨rfl, m _ _ q⟩
theorem xm_Al_m {h : xm_H} {cA : ClassId} {a : Nat} {k k' : Nat → (Nat → Int64) → Prop} (m : ∀ n f, k n f → k' n f) (q : xm_Al h cA a k) : xm_Al h cA a k' := by
  obtain ⟨n, f, ha, q⟩ := xm_Al_e q; unfold xm_Al; rw [ha]; exact ⟨rfl, m _ _ q⟩
theorem xm_Aq_m {h : xm_H} {cA : ClassId} {a : Nat} {k k' : Nat → (Nat → Option Nat) → Prop} (m : ∀ n f, k n f → k' n f) (q : xm_Aq h cA a k) : xm_Aq h cA a k' := by
  obtain ⟨n, f, ha, q⟩ := xm_Aq_e q; unfold xm_Aq; rw [ha]; exact ⟨rfl, m _ _ q⟩
theorem xm_An_m {h : xm_H} {ac : Nat → ClassId} {a : Nat} {k k' : Nat → Prop} (m : ∀ n, k n → k' n) (q : xm_An h ac a k) : xm_An h ac a k' := by
  obtain ⟨c, n, f, ha, hc, q⟩ := xm_An_e q; unfold xm_An; rw [ha]; exact ⟨hc, m _ q⟩
theorem xm_O_m {h : xm_H} {ci a : Nat} {k k' : List Value → Prop} (m : ∀ fs, k fs → k' fs) (q : xm_O h ci a k) : xm_O h ci a k' := by
  obtain ⟨fs, ha, q⟩ := xm_O_e q; unfold xm_O; rw [ha]; exact ⟨rfl, m _ q⟩
theorem xm_cp_m {st : List Value} {k k' : Nat → Int32 → Nat → Int32 → Int32 → List Value → Prop} (m : ∀ a b c d e r, k a b c d e r → k' a b c d e r) (h : xm_cp st k) : xm_cp st k' := by
  obtain ⟨a, b, c, d, e, r, rfl, h⟩ := xm_cp_e h; exact m _ _ _ _ _ _ h
theorem xm_sw_m {a : Int32} {K K' : Nat → Prop} {d : Nat} (m : ∀ t, K t → K' t) : ∀ {ts : List (Int32 × Nat)}, xm_sw a K d ts → xm_sw a K' d ts
  | [], h => m _ h
  | _ :: _, h => ⟨fun q => m _ (h.1 q), fun q => xm_sw_m m (h.2 q)⟩
theorem xm_call_m {cs : xm_S} {x : Nat} {as r : List Value} {h : xm_H} {rc rs : Nat} {K K' : List Value → xm_H → Nat → Nat → Prop} {J J' : String → xm_H → Nat → Nat → Prop} (m : ∀ a b c d, K a b c d → K' a b c d) (mx : ∀ a b c d, J a b c d → J' a b c d) (q : xm_call cs x as r h rc rs K J) : xm_call cs x as r h rc rs K' J' := by
  obtain ⟨h1, mc, ms, z, h2, h3, h4, h5, h6⟩ := q
  exact ⟨h1, mc, ms, z, h2, h3, h4, fun v h' hv => m _ _ _ _ (h5 v h' hv), fun E h' hv => mx _ _ _ _ (h6 E h' hv)⟩
theorem xm_rcv_m {st : List Value} {y : Nat} {K K' : Nat → List Value → List Value → Prop} (m : ∀ a b c, K a b c → K' a b c) (q : xm_rcv st y K) : xm_rcv st y K' := by
  unfold xm_rcv at q ⊢
  split at q
  · rename_i hd; exact m _ _ _ q
  · exact q.elim

section XMM
variable {ac : Nat → ClassId} {lo : Nat} {fty : Nat → Nat → FieldType} {dfl : Nat → List Value} {mcl : Nat → Nat} {sv : xm_V} {dd : Nat} {hh : List (Nat × Nat × Nat × Nat × String)} {cs : xm_S} {tb : Nat → Option xm_I} {rt : Option FieldType} {post : xm_Q} {X Y : xm_X}
set_option maxHeartbeats 4000000 in
theorem xm_F_m (m : ∀ pc L st h rc rs, X pc L st h rc rs → Y pc L st h rc rs) {pc : Nat} {L : xm_L} {st : List Value} {h : xm_H} {rc rs : Nat} (hF : xm_F ac lo fty tb rt post X pc L st h rc rs) : xm_F ac lo fty tb rt post Y pc L st h rc rs := by
  unfold xm_F at hF ⊢
  cases hq : tb pc with
  | none => rw [hq] at hF; exact hF.elim
  | some q =>
    obtain ⟨i, x, y, w, v, ts⟩ := q
    rw [hq] at hF
    cases i with
    | iconst n => exact m _ _ _ _ _ _ hF
    | bipush n => exact m _ _ _ _ _ _ hF
    | sipush n => exact m _ _ _ _ _ _ hF
    | ldc n => exact m _ _ _ _ _ _ hF
    | ldc_w n => exact m _ _ _ _ _ _ hF
    | lconst n => exact m _ _ _ _ _ _ hF
    | ldc2_w n => exact m _ _ _ _ _ _ hF
    | aconst_null => exact m _ _ _ _ _ _ hF
    | goto o => exact m _ _ _ _ _ _ hF
    | iload_n n => exact xm_Li_m (fun _ q => m _ _ _ _ _ _ q) hF
    | iload n => exact xm_Li_m (fun _ q => m _ _ _ _ _ _ q) hF
    | lload_n n => exact xm_Ll_m (fun _ q => m _ _ _ _ _ _ q) hF
    | lload n => exact xm_Ll_m (fun _ q => m _ _ _ _ _ _ q) hF
    | aload_n n => exact xm_La_m (fun q => m _ _ _ _ _ _ q) (fun _ q => m _ _ _ _ _ _ q) hF
    | aload n => exact xm_La_m (fun q => m _ _ _ _ _ _ q) (fun _ q => m _ _ _ _ _ _ q) hF
    | istore_n n => exact xm_i_m (fun _ _ q => ⟨q.1, m _ _ _ _ _ _ q.2⟩) hF
    | istore n => exact xm_i_m (fun _ _ q => ⟨q.1, m _ _ _ _ _ _ q.2⟩) hF
    | lstore_n n => exact xm_l_m (fun _ _ q => ⟨q.1, m _ _ _ _ _ _ q.2⟩) hF
    | lstore n => exact xm_l_m (fun _ _ q => ⟨q.1, m _ _ _ _ _ _ q.2⟩) hF
    | astore_n n => exact xm_a_m (fun _ _ q => ⟨q.1, m _ _ _ _ _ _ q.2⟩) hF
    | astore n => exact xm_a_m (fun _ _ q => ⟨q.1, m _ _ _ _ _ _ q.2⟩) hF
    | iinc n o => exact xm_Li_m (fun _ q => ⟨q.1, m _ _ _ _ _ _ q.2⟩) hF
    | iadd => exact xm_ii_m (fun _ _ _ q => m _ _ _ _ _ _ q) hF
    | isub => exact xm_ii_m (fun _ _ _ q => m _ _ _ _ _ _ q) hF
    | imul => exact xm_ii_m (fun _ _ _ q => m _ _ _ _ _ _ q) hF
    | iand => exact xm_ii_m (fun _ _ _ q => m _ _ _ _ _ _ q) hF
    | ior => exact xm_ii_m (fun _ _ _ q => m _ _ _ _ _ _ q) hF
    | ixor => exact xm_ii_m (fun _ _ _ q => m _ _ _ _ _ _ q) hF
    | ishl => exact xm_ii_m (fun _ _ _ q => m _ _ _ _ _ _ q) hF
    | ishr => exact xm_ii_m (fun _ _ _ q => m _ _ _ _ _ _ q) hF
    | iushr => exact xm_ii_m (fun _ _ _ q => m _ _ _ _ _ _ q) hF
    | idiv => exact xm_ii_m (fun _ _ _ q => ⟨q.1, m _ _ _ _ _ _ q.2⟩) hF
    | irem => exact xm_ii_m (fun _ _ _ q => ⟨q.1, m _ _ _ _ _ _ q.2⟩) hF
    | ladd => exact xm_ll_m (fun _ _ _ q => m _ _ _ _ _ _ q) hF
    | lsub => exact xm_ll_m (fun _ _ _ q => m _ _ _ _ _ _ q) hF
    | lmul => exact xm_ll_m (fun _ _ _ q => m _ _ _ _ _ _ q) hF
    | land => exact xm_ll_m (fun _ _ _ q => m _ _ _ _ _ _ q) hF
    | lor => exact xm_ll_m (fun _ _ _ q => m _ _ _ _ _ _ q) hF
    | lxor => exact xm_ll_m (fun _ _ _ q => m _ _ _ _ _ _ q) hF
    | lcmp => exact xm_ll_m (fun _ _ _ q => m _ _ _ _ _ _ q) hF
    | ldiv => exact xm_ll_m (fun _ _ _ q => ⟨q.1, m _ _ _ _ _ _ q.2⟩) hF
    | lrem => exact xm_ll_m (fun _ _ _ q => ⟨q.1, m _ _ _ _ _ _ q.2⟩) hF
    | lshl => exact xm_li_m (fun _ _ _ q => m _ _ _ _ _ _ q) hF
    | lshr => exact xm_li_m (fun _ _ _ q => m _ _ _ _ _ _ q) hF
    | lushr => exact xm_li_m (fun _ _ _ q => m _ _ _ _ _ _ q) hF
    | ineg => exact xm_i_m (fun _ _ q => m _ _ _ _ _ _ q) hF
    | lneg => exact xm_l_m (fun _ _ q => m _ _ _ _ _ _ q) hF
    | i2l => exact xm_i_m (fun _ _ q => m _ _ _ _ _ _ q) hF
    | l2i => exact xm_l_m (fun _ _ q => m _ _ _ _ _ _ q) hF
    | i2b => exact xm_i_m (fun _ _ q => m _ _ _ _ _ _ q) hF
    | i2c => exact xm_i_m (fun _ _ q => m _ _ _ _ _ _ q) hF
    | dup => 
      cases st with
      | nil => exact hF.elim
      | cons u r => exact ⟨hF.1, m _ _ _ _ _ _ hF.2⟩
    | pop => 
      cases st with
      | nil => exact hF.elim
      | cons u r => exact ⟨hF.1, m _ _ _ _ _ _ hF.2⟩
    | dup_x1 => 
      cases st with
      | nil => exact hF.elim
      | cons u r =>
        cases r with
        | nil => exact hF.elim
        | cons t r => exact ⟨hF.1, hF.2.1, m _ _ _ _ _ _ hF.2.2⟩
    | dup2 => 
      cases st with
      | nil => exact hF.elim
      | cons u r =>
        cases r with
        | nil => exact hF.elim
        | cons t r => exact ⟨hF.1, hF.2.1, m _ _ _ _ _ _ hF.2.2⟩
    | ifCond t o => cases t <;> exact xm_i_m (fun _ _ q => ⟨fun z => m _ _ _ _ _ _ (q.1 z), fun z => m _ _ _ _ _ _ (q.2 z)⟩) hF
    | if_icmp t o => cases t <;> exact xm_ii_m (fun _ _ _ q => ⟨fun z => m _ _ _ _ _ _ (q.1 z), fun z => m _ _ _ _ _ _ (q.2 z)⟩) hF
    | tableswitch d a b os => exact xm_i_m (fun _ _ q => xm_sw_m (fun _ z => m _ _ _ _ _ _ z) q) hF
    | lookupswitch d ps => exact xm_i_m (fun _ _ q => xm_sw_m (fun _ z => m _ _ _ _ _ _ z) q) hF
    | ifnull o => exact xm_n_m (fun _ q => m _ _ _ _ _ _ q) (fun _ _ q => m _ _ _ _ _ _ q) hF
    | ifnonnull o => exact xm_n_m (fun _ q => m _ _ _ _ _ _ q) (fun _ _ q => m _ _ _ _ _ _ q) hF
    | getfield k => 
      refine xm_a_m (fun a r q => xm_O_m (fun fs q => ?_) q) hF
      cases hf : fs[y]? with
      | none => rw [hf] at q; exact q.elim
      | some u => rw [hf] at q; exact m _ _ _ _ _ _ q
    | putfield k => exact xm_av_m (fun _ _ _ q => xm_O_m (fun _ q => ⟨q.1, q.2.1, q.2.2.1, m _ _ _ _ _ _ q.2.2.2⟩) q) hF
    | iaload => exact xm_ai_m (fun _ _ _ q => xm_Ai_m (fun _ _ q => ⟨q.1, m _ _ _ _ _ _ q.2⟩) q) hF
    | laload => exact xm_ai_m (fun _ _ _ q => xm_Al_m (fun _ _ q => ⟨q.1, m _ _ _ _ _ _ q.2⟩) q) hF
    | caload => exact xm_ai_m (fun _ _ _ q => xm_Ai_m (fun _ _ q => ⟨q.1, m _ _ _ _ _ _ q.2⟩) q) hF
    | baload => exact xm_ai_m (fun _ _ _ q => xm_Ai_m (fun _ _ q => ⟨q.1, m _ _ _ _ _ _ q.2⟩) q) hF
    | aaload => exact xm_ai_m (fun _ _ _ q => xm_Aq_m (fun _ _ q => ⟨q.1, m _ _ _ _ _ _ q.2⟩) q) hF
    | iastore => exact xm_aii_m (fun _ _ _ _ q => xm_Ai_m (fun _ _ q => ⟨q.1, q.2.1, m _ _ _ _ _ _ q.2.2⟩) q) hF
    | lastore => exact xm_ail_m (fun _ _ _ _ q => xm_Al_m (fun _ _ q => ⟨q.1, q.2.1, m _ _ _ _ _ _ q.2.2⟩) q) hF
    | castore => exact xm_aii_m (fun _ _ _ _ q => xm_Ai_m (fun _ _ q => ⟨q.1, q.2.1, m _ _ _ _ _ _ q.2.2⟩) q) hF
    | bastore => exact xm_aii_m (fun _ _ _ _ q => xm_Ai_m (fun _ _ q => ⟨q.1, q.2.1, m _ _ _ _ _ _ q.2.2⟩) q) hF
    | arraylength => exact xm_a_m (fun _ _ q => xm_An_m (fun _ q => m _ _ _ _ _ _ q) q) hF
    | newarray t => 
      refine xm_i_m (fun j r q => ⟨q.1, q.2.1, q.2.2.1, q.2.2.2.1, ?_⟩) hF
      have q5 := q.2.2.2.2
      cases hn : xm_new ac j.toNatClampNeg t with
      | none => rw [hn] at q5; exact q5.elim
      | some e => rw [hn] at q5; exact m _ _ _ _ _ _ q5
    | ireturn => exact hF
    | lreturn => exact hF
    | return_ => exact hF
    | _ => exact hF.elim
theorem xm_ma_m {w : Int32} {st : List Value} {K K' : List Value → Prop} (m : ∀ r, K r → K' r) (h : xm_ma w st K) : xm_ma w st K' := by
  unfold xm_ma at h ⊢
  by_cases h1 : w = -2
  · rw [if_pos h1] at h ⊢
    exact xm_ii_m (fun _ _ _ q => ⟨q.1, m _ q.2⟩) h
  · rw [if_neg h1] at h ⊢
    by_cases h2 : w = -3
    · rw [if_pos h2] at h ⊢
      exact xm_ii_m (fun _ _ _ q => ⟨q.1, m _ q.2⟩) h
    · rw [if_neg h2] at h ⊢
      exact xm_ll_m (fun _ _ _ q => ⟨q.1, m _ q.2⟩) h
theorem xm_aia_m {st : List Value} {k k' : Nat → Int32 → Nat → List Value → Prop} (m : ∀ a i u r, k a i u r → k' a i u r) (h : xm_aia st k) : xm_aia st k' := by
  obtain ⟨a, i, u, r, rfl, h⟩ := xm_aia_e h; exact m _ _ _ _ h
theorem xm_kx_m (m : ∀ pc L st h rc rs, X pc L st h rc rs → Y pc L st h rc rs) {pc : Nat} {L : xm_L} (E : String) (h : xm_H) (rc rs : Nat) (q : xm_kx hh sv post X pc L E h rc rs) : xm_kx hh sv post Y pc L E h rc rs := by
  cases hh with
  | nil => exact q
  | cons a b =>
    refine ⟨q.1, ?_⟩
    have q2 := q.2
    cases hd : xm_hd pc E (a :: b) with
    | none => rw [hd] at q2; exact q2
    | some t => rw [hd] at q2; exact fun z => m _ _ _ _ _ _ (q2 z)
set_option maxHeartbeats 4000000 in
theorem xm_G_m (m : ∀ pc L st h rc rs, X pc L st h rc rs → Y pc L st h rc rs) {pc : Nat} {L : xm_L} {st : List Value} {h : xm_H} {rc rs : Nat} (hG : xm_G ac lo fty dfl mcl sv dd hh cs tb rt post X pc L st h rc rs) : xm_G ac lo fty dfl mcl sv dd hh cs tb rt post Y pc L st h rc rs := by
  unfold xm_G at hG ⊢
  cases hq : tb pc with
  | none => rw [hq] at hG; exact xm_F_m m hG
  | some q =>
    obtain ⟨i, x, y, w, v, ts⟩ := q
    rw [hq] at hG
    cases i with
    | invokestatic k =>
      dsimp only at hG ⊢
      by_cases hw : w = -1
      · rw [if_pos hw] at hG ⊢
        exact xm_cp_m (fun _ _ _ _ _ _ q => xm_Ai_m (fun _ _ q => xm_Ai_m (fun _ _ q => ⟨q.1, q.2.1, q.2.2.1, q.2.2.2.1, q.2.2.2.2.1, q.2.2.2.2.2.1, q.2.2.2.2.2.2.1, m _ _ _ _ _ _ q.2.2.2.2.2.2.2⟩) q) q) hG
      · rw [if_neg hw] at hG ⊢
        by_cases hw2 : w < -1
        · rw [if_pos hw2] at hG ⊢
          exact xm_ma_m (fun _ q => m _ _ _ _ _ _ q) hG
        · rw [if_neg hw2] at hG ⊢
          exact ⟨hG.1, xm_call_m (fun _ _ _ _ q => m _ _ _ _ _ _ q) (xm_kx_m m) hG.2⟩
    | invokevirtual k =>
      dsimp only at hG ⊢
      by_cases hw : w = -1
      · rw [if_pos hw] at hG ⊢
        exact xm_rcv_m (fun _ _ _ q => ⟨q.1, xm_call_m (fun _ _ _ _ q => m _ _ _ _ _ _ q) (xm_kx_m m) q.2⟩) hG
      · rw [if_neg hw] at hG ⊢
        exact xm_rcv_m (fun _ _ _ q => ⟨q.1, xm_call_m (fun _ _ _ _ q => m _ _ _ _ _ _ q) (xm_kx_m m) q.2⟩) hG
    | invokespecial k =>
      refine xm_rcv_m (fun b as r q => ?_) hG
      by_cases hw : w = -1
      · rw [if_pos hw] at q ⊢; exact ⟨q.1, q.2.1, m _ _ _ _ _ _ q.2.2⟩
      · rw [if_neg hw] at q ⊢; exact xm_call_m (fun _ _ _ _ q => m _ _ _ _ _ _ q) (xm_kx_m m) q
    | getstatic k =>
      cases hz : sv.1[x]? with
      | none => simp only [hz] at hG
      | some z => simp only [hz] at hG ⊢; exact m _ _ _ _ _ _ hG
    | new k =>
      dsimp only at hG ⊢
      by_cases hw : w = -1
      · rw [if_pos hw] at hG ⊢
        exact hG
      · rw [if_neg hw] at hG ⊢
        exact ⟨hG.1, hG.2.1, m _ _ _ _ _ _ hG.2.2⟩
    | iaload =>
      dsimp only at hG ⊢
      by_cases hw : w = -1
      · rw [if_pos hw] at hG ⊢
        exact xm_ai_m (fun _ _ _ q => by obtain ⟨k, n, f, q1, q2, q3⟩ := q; exact ⟨k, n, f, q1, q2, m _ _ _ _ _ _ q3⟩) hG
      · rw [if_neg hw] at hG ⊢
        exact xm_F_m m hG
    | arraylength =>
      dsimp only at hG ⊢
      by_cases hw : w = -1
      · rw [if_pos hw] at hG ⊢
        exact xm_a_m (fun _ _ q => by obtain ⟨k, n, f, q1, q3⟩ := q; exact ⟨k, n, f, q1, m _ _ _ _ _ _ q3⟩) hG
      · rw [if_neg hw] at hG ⊢
        by_cases hw2 : w = -2
        · rw [if_pos hw2] at hG ⊢
          exact xm_a_m (fun _ _ q => by obtain ⟨k, z, q1, q2, q3⟩ := q; exact ⟨k, z, q1, q2, m _ _ _ _ _ _ q3⟩) hG
        · rw [if_neg hw2] at hG ⊢
          exact xm_F_m m hG
    | ldc k =>
      dsimp only at hG ⊢
      by_cases hw : x = 1
      · rw [if_pos hw] at hG ⊢
        cases hz : sv.2.2.2.2.2.2[y]? with
        | none => simp only [hz] at hG
        | some z => simp only [hz] at hG ⊢; exact m _ _ _ _ _ _ hG
      · rw [if_neg hw] at hG ⊢
        exact xm_F_m m hG
    | getfield k =>
      dsimp only at hG ⊢
      by_cases hw : x = 98
      · rw [if_pos hw] at hG ⊢
        exact xm_a_m (fun _ _ q => by obtain ⟨k, z, q1, q2, q3⟩ := q; exact ⟨k, z, q1, q2, m _ _ _ _ _ _ q3⟩) hG
      · rw [if_neg hw] at hG ⊢
        exact xm_F_m m hG
    | baload =>
      dsimp only at hG ⊢
      by_cases hw : x = 4
      · rw [if_pos hw] at hG ⊢
        exact xm_ai_m (fun _ _ _ q => by obtain ⟨k, z, q1, q2, q3, q4⟩ := q; exact ⟨k, z, q1, q2, q3, m _ _ _ _ _ _ q4⟩) hG
      · rw [if_neg hw] at hG ⊢
        exact xm_F_m m hG
    | multianewarray k n => exact xm_ii_m (fun _ _ _ q => ⟨q.1, q.2.1, q.2.2.1, q.2.2.2.1, q.2.2.2.2.1, m _ _ _ _ _ _ q.2.2.2.2.2⟩) hG
    | aastore => exact xm_aia_m (fun _ _ _ _ q => xm_Aq_m (fun _ _ q => ⟨q.1, q.2.1, q.2.2.1, m _ _ _ _ _ _ q.2.2.2⟩) q) hG
    | _ => exact xm_F_m m hG
/-- k steps at once -/
theorem xm_run (hX : ∀ pc L st h rc rs, xm_G ac lo fty dfl mcl sv dd hh cs tb rt post X pc L st h rc rs → X pc L st h rc rs) : ∀ (k pc : Nat) (L : xm_L) (st : List Value) (h : xm_H) (rc rs : Nat), xm_go ac lo fty dfl mcl sv dd hh cs tb rt post X k pc L st h rc rs → X pc L st h rc rs
  | 0, _, _, _, _, _, _, q => q
  | k + 1, _, _, _, _, _, _, q => hX _ _ _ _ _ _ (xm_G_m (xm_run hX k) q)
end XMM
