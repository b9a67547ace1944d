/-! the law: an arm a call, over what is said of the two methods -/
section LA
variable {ac : Nat → ClassId} {lo : Nat} {ad as : Nat → Nat} {b L : Nat} {xs : Nat → Int32} {hp : mm_M → Nat → xm_H}
set_option maxRecDepth 100000 in
set_option maxHeartbeats 4000000 in
theorem lar_45 (H : mm_L ac lo hp) {I J : mm_M → Prop} {X : xm_X} (hX : (∀ pc L' st h rc rs, xm_G ac lo xp_fty xp_dfl xp.2.2.2.2.2.2.1 (xp_sv ad as (b, L, xs)) 1000 [] (xm_M xp ac lo xp_fty xp_dfl (xp_sv ad as (b, L, xs)) 1000) (fun pc => xl_L_law.lookup pc) (some .boolean) (fun r _ => r = .inl (some (.int 1))) X pc L' st h rc rs → X pc L' st h rc rs)) {iv : Int32} (hin : ∀ c : Int32, 0 ≤ c → c ≤ 5 → vp_in (iv + c) L) (hc : ∀ (p0 : Int32) (p1 : Int32), la_I ac lo ad as b L xs hp I J nm_X11_mix nm_X12_mix [.int p0, .int p1]) {rc rs : Nat} (h1 : 1 ≤ rc) (h6 : 6 ≤ rs) (hK : ∀ M z rc' rs' l5 l6 l7, J M → rc ≤ rc' + 1 → rs ≤ rs' + 6 → X 2622 [some (.ref b), some (.ref (lo + 0)), some (.ref (lo + 108)), some (.ref (lo + 202)), some (.int iv), l5, l6, l7] [] (hp M z) rc' rs') {M : mm_M} (z : Nat) (hI : I M) (l5 l6 l7 : Option Value) : X 2205 [some (.ref b), some (.ref (lo + 0)), some (.ref (lo + 108)), some (.ref (lo + 202)), some (.int iv), l5, l6, l7] [] (hp M z) rc rs := by
  obtain ⟨v, M1, M2, C1, C2, hJ⟩ := hc (xs ((iv + 1) : Int32).toNatClampNeg) (xs ((iv + 2) : Int32).toNatClampNeg) M z hI
  refine xm_run hX 25 _ _ _ _ _ _ ?_
  conv => whnf
  refine ⟨0, _, _, rfl, hin 1 (by decide) (by decide), ?_⟩
  conv => whnf
  refine ⟨0, _, _, rfl, hin 2 (by decide) (by decide), ?_⟩
  conv => whnf
  refine ⟨xw_O (by rw [H.1]; rfl), xw1 0 0 (Nat.le_of_ble_eq_true rfl) (Nat.zero_le _) (Nat.zero_le _) C1 ?_⟩
  conv => whnf
  refine ⟨0, _, _, rfl, hin 1 (by decide) (by decide), ?_⟩
  conv => whnf
  refine ⟨0, _, _, rfl, hin 2 (by decide) (by decide), ?_⟩
  conv => whnf
  refine ⟨xw_O (by rw [H.1]; rfl), xw1 0 0 (Nat.le_of_ble_eq_true rfl) (Nat.zero_le _) (Nat.zero_le _) C2 ?_⟩
  conv => whnf
  refine ⟨fun _ => ?_, fun c => absurd rfl c⟩
  refine xm_run hX 0 _ _ _ _ _ _ ?_
  exact hK _ _ _ _ _ _ _ hJ (by omega) (by omega)
set_option maxRecDepth 100000 in
set_option maxHeartbeats 4000000 in
theorem lar_46 (H : mm_L ac lo hp) {I J : mm_M → Prop} {X : xm_X} (hX : (∀ pc L' st h rc rs, xm_G ac lo xp_fty xp_dfl xp.2.2.2.2.2.2.1 (xp_sv ad as (b, L, xs)) 1000 [] (xm_M xp ac lo xp_fty xp_dfl (xp_sv ad as (b, L, xs)) 1000) (fun pc => xl_L_law.lookup pc) (some .boolean) (fun r _ => r = .inl (some (.int 1))) X pc L' st h rc rs → X pc L' st h rc rs)) {iv : Int32} (hin : ∀ c : Int32, 0 ≤ c → c ≤ 5 → vp_in (iv + c) L) (hc : ∀ (p0 : Int32) (p1 : Int32) (p2 : Int32), la_I ac lo ad as b L xs hp I J nm_X11_spoil nm_X12_spoil [.int p0, .int p1, .int p2]) {rc rs : Nat} (h1 : 1 ≤ rc) (h6 : 6 ≤ rs) (hK : ∀ M z rc' rs' l5 l6 l7, J M → rc ≤ rc' + 1 → rs ≤ rs' + 6 → X 2622 [some (.ref b), some (.ref (lo + 0)), some (.ref (lo + 108)), some (.ref (lo + 202)), some (.int iv), l5, l6, l7] [] (hp M z) rc' rs') {M : mm_M} (z : Nat) (hI : I M) (l5 l6 l7 : Option Value) : X 2242 [some (.ref b), some (.ref (lo + 0)), some (.ref (lo + 108)), some (.ref (lo + 202)), some (.int iv), l5, l6, l7] [] (hp M z) rc rs := by
  obtain ⟨v, M1, M2, C1, C2, hJ⟩ := hc (xs ((iv + 1) : Int32).toNatClampNeg) (xs ((iv + 2) : Int32).toNatClampNeg) (xs ((iv + 3) : Int32).toNatClampNeg) M z hI
  refine xm_run hX 35 _ _ _ _ _ _ ?_
  conv => whnf
  refine ⟨0, _, _, rfl, hin 1 (by decide) (by decide), ?_⟩
  conv => whnf
  refine ⟨0, _, _, rfl, hin 2 (by decide) (by decide), ?_⟩
  conv => whnf
  refine ⟨0, _, _, rfl, hin 3 (by decide) (by decide), ?_⟩
  conv => whnf
  refine ⟨xw_O (by rw [H.1]; rfl), xw1 0 0 (Nat.le_of_ble_eq_true rfl) (Nat.zero_le _) (Nat.zero_le _) C1 ?_⟩
  conv => whnf
  refine ⟨0, _, _, rfl, hin 1 (by decide) (by decide), ?_⟩
  conv => whnf
  refine ⟨0, _, _, rfl, hin 2 (by decide) (by decide), ?_⟩
  conv => whnf
  refine ⟨0, _, _, rfl, hin 3 (by decide) (by decide), ?_⟩
  conv => whnf
  refine ⟨xw_O (by rw [H.1]; rfl), xw1 0 0 (Nat.le_of_ble_eq_true rfl) (Nat.zero_le _) (Nat.zero_le _) C2 ?_⟩
  conv => whnf
  refine ⟨fun _ => ?_, fun c => absurd rfl c⟩
  refine xm_run hX 0 _ _ _ _ _ _ ?_
  exact hK _ _ _ _ _ _ _ hJ (by omega) (by omega)
set_option maxRecDepth 100000 in
set_option maxHeartbeats 4000000 in
theorem lar_47 (H : mm_L ac lo hp) {I J : mm_M → Prop} {X : xm_X} (hX : (∀ pc L' st h rc rs, xm_G ac lo xp_fty xp_dfl xp.2.2.2.2.2.2.1 (xp_sv ad as (b, L, xs)) 1000 [] (xm_M xp ac lo xp_fty xp_dfl (xp_sv ad as (b, L, xs)) 1000) (fun pc => xl_L_law.lookup pc) (some .boolean) (fun r _ => r = .inl (some (.int 1))) X pc L' st h rc rs → X pc L' st h rc rs)) {iv : Int32} (hin : ∀ c : Int32, 0 ≤ c → c ≤ 5 → vp_in (iv + c) L) (hc : ∀ (p0 : Int32) (p1 : Int32) (p2 : Int32), la_TJ ac lo ad as b L xs hp I J nm_L_entry nm_X12_entry [.int p0, .int p1, .int p2]) {rc rs : Nat} (h1 : 1 ≤ rc) (h6 : 6 ≤ rs) (hK : ∀ M z rc' rs' l5 l6 l7, J M → rc ≤ rc' + 1 → rs ≤ rs' + 6 → X 2622 [some (.ref b), some (.ref (lo + 0)), some (.ref (lo + 108)), some (.ref (lo + 202)), some (.int iv), l5, l6, l7] [] (hp M z) rc' rs') {M : mm_M} (z : Nat) (hI : I M) (l5 l6 l7 : Option Value) : X 2291 [some (.ref b), some (.ref (lo + 0)), some (.ref (lo + 108)), some (.ref (lo + 202)), some (.int iv), l5, l6, l7] [] (hp M z) rc rs := by
  obtain ⟨k, w, M1, M2, C1, C2, hk, hw, hJ⟩ := hc (xs ((iv + 1) : Int32).toNatClampNeg) (xs ((iv + 2) : Int32).toNatClampNeg) (xs ((iv + 3) : Int32).toNatClampNeg) M z hI
  refine xm_run hX 41 _ _ _ _ _ _ ?_
  conv => whnf
  refine ⟨0, _, _, rfl, hin 1 (by decide) (by decide), ?_⟩
  conv => whnf
  refine ⟨0, _, _, rfl, hin 2 (by decide) (by decide), ?_⟩
  conv => whnf
  refine ⟨0, _, _, rfl, hin 3 (by decide) (by decide), ?_⟩
  conv => whnf
  refine ⟨Nat.le_of_ble_eq_true rfl, la_call (Nat.le_of_ble_eq_true rfl) h1 h6 C1 (fun z => ?_)⟩
  conv => whnf
  refine ⟨Nat.le_of_ble_eq_true rfl, ?_⟩
  conv => whnf
  refine ⟨0, _, _, rfl, hin 1 (by decide) (by decide), ?_⟩
  conv => whnf
  refine ⟨0, _, _, rfl, hin 2 (by decide) (by decide), ?_⟩
  conv => whnf
  refine ⟨0, _, _, rfl, hin 3 (by decide) (by decide), ?_⟩
  conv => whnf
  refine ⟨xw_O (by rw [H.1]; rfl), xw1 0 0 (Nat.le_of_ble_eq_true rfl) (Nat.zero_le _) (Nat.zero_le _) (C2 _) ?_⟩
  conv => whnf
  refine ⟨Nat.le_of_ble_eq_true rfl, ?_⟩
  conv => whnf
  refine ⟨xw_O (by rw [H.1]; rfl), xw1 0 0 (Nat.le_of_ble_eq_true rfl) (Nat.zero_le _) (Nat.zero_le _) (la_thrown H 999 _ _) ?_⟩
  conv => whnf
  refine ⟨fun _ => ?_, fun c => absurd hk c⟩
  refine xm_run hX 2 _ _ _ _ _ _ ?_
  conv => whnf
  refine ⟨fun _ => ?_, fun hk0 => ?_⟩
  ·
    refine xm_run hX 1 _ _ _ _ _ _ ?_
    exact hK _ _ _ _ _ _ _ hJ (by omega) (by omega)
  ·
    have hk0 : k = 0 := Decidable.byContradiction hk0
    refine xm_run hX 6 _ _ _ _ _ _ ?_
    conv => whnf
    rw [H.1]
    conv => whnf
    refine ⟨rfl, (by unfold vp_in; decide), ?_⟩
    conv => whnf
    refine ⟨fun _ => ?_, fun c => absurd (by show lg_cmp (M2.2 202 0) _ = 0; rw [hw hk0]; exact la_cmp _) c⟩
    refine xm_run hX 1 _ _ _ _ _ _ ?_
    exact hK _ _ _ _ _ _ _ hJ (by omega) (by omega)
set_option maxRecDepth 100000 in
set_option maxHeartbeats 4000000 in
theorem lar_48 (H : mm_L ac lo hp) {I J : mm_M → Prop} {X : xm_X} (hX : (∀ pc L' st h rc rs, xm_G ac lo xp_fty xp_dfl xp.2.2.2.2.2.2.1 (xp_sv ad as (b, L, xs)) 1000 [] (xm_M xp ac lo xp_fty xp_dfl (xp_sv ad as (b, L, xs)) 1000) (fun pc => xl_L_law.lookup pc) (some .boolean) (fun r _ => r = .inl (some (.int 1))) X pc L' st h rc rs → X pc L' st h rc rs)) {iv : Int32} (hin : ∀ c : Int32, 0 ≤ c → c ≤ 5 → vp_in (iv + c) L) (hc : ∀ (p0 : Int32), la_TJ ac lo ad as b L xs hp I J nm_L_purity nm_X12_purity [.int p0]) {rc rs : Nat} (h1 : 1 ≤ rc) (h6 : 6 ≤ rs) (hK : ∀ M z rc' rs' l5 l6 l7, J M → rc ≤ rc' + 1 → rs ≤ rs' + 6 → X 2622 [some (.ref b), some (.ref (lo + 0)), some (.ref (lo + 108)), some (.ref (lo + 202)), some (.int iv), l5, l6, l7] [] (hp M z) rc' rs') {M : mm_M} (z : Nat) (hI : I M) (l5 l6 l7 : Option Value) : X 2370 [some (.ref b), some (.ref (lo + 0)), some (.ref (lo + 108)), some (.ref (lo + 202)), some (.int iv), l5, l6, l7] [] (hp M z) rc rs := by
  obtain ⟨k, w, M1, M2, C1, C2, hk, hw, hJ⟩ := hc (xs ((iv + 1) : Int32).toNatClampNeg) M z hI
  refine xm_run hX 21 _ _ _ _ _ _ ?_
  conv => whnf
  refine ⟨0, _, _, rfl, hin 1 (by decide) (by decide), ?_⟩
  conv => whnf
  refine ⟨Nat.le_of_ble_eq_true rfl, la_call (Nat.le_of_ble_eq_true rfl) h1 h6 C1 (fun z => ?_)⟩
  conv => whnf
  refine ⟨Nat.le_of_ble_eq_true rfl, ?_⟩
  conv => whnf
  refine ⟨0, _, _, rfl, hin 1 (by decide) (by decide), ?_⟩
  conv => whnf
  refine ⟨xw_O (by rw [H.1]; rfl), xw1 0 0 (Nat.le_of_ble_eq_true rfl) (Nat.zero_le _) (Nat.zero_le _) (C2 _) ?_⟩
  conv => whnf
  refine ⟨Nat.le_of_ble_eq_true rfl, ?_⟩
  conv => whnf
  refine ⟨xw_O (by rw [H.1]; rfl), xw1 0 0 (Nat.le_of_ble_eq_true rfl) (Nat.zero_le _) (Nat.zero_le _) (la_thrown H 999 _ _) ?_⟩
  conv => whnf
  refine ⟨fun _ => ?_, fun c => absurd hk c⟩
  refine xm_run hX 2 _ _ _ _ _ _ ?_
  conv => whnf
  refine ⟨fun _ => ?_, fun hk0 => ?_⟩
  ·
    refine xm_run hX 1 _ _ _ _ _ _ ?_
    exact hK _ _ _ _ _ _ _ hJ (by omega) (by omega)
  ·
    have hk0 : k = 0 := Decidable.byContradiction hk0
    refine xm_run hX 6 _ _ _ _ _ _ ?_
    conv => whnf
    rw [H.1]
    conv => whnf
    refine ⟨rfl, (by unfold vp_in; decide), ?_⟩
    conv => whnf
    refine ⟨fun _ => ?_, fun c => absurd (by show lg_cmp (M2.2 202 0) _ = 0; rw [hw hk0]; exact la_cmp _) c⟩
    refine xm_run hX 1 _ _ _ _ _ _ ?_
    exact hK _ _ _ _ _ _ _ hJ (by omega) (by omega)
set_option maxRecDepth 100000 in
set_option maxHeartbeats 4000000 in
theorem lar_49 (H : mm_L ac lo hp) {I J : mm_M → Prop} {X : xm_X} (hX : (∀ pc L' st h rc rs, xm_G ac lo xp_fty xp_dfl xp.2.2.2.2.2.2.1 (xp_sv ad as (b, L, xs)) 1000 [] (xm_M xp ac lo xp_fty xp_dfl (xp_sv ad as (b, L, xs)) 1000) (fun pc => xl_L_law.lookup pc) (some .boolean) (fun r _ => r = .inl (some (.int 1))) X pc L' st h rc rs → X pc L' st h rc rs)) {iv : Int32} (hin : ∀ c : Int32, 0 ≤ c → c ≤ 5 → vp_in (iv + c) L) (hc : ∀ (p0 : Int32) (p1 : Int32) (p2 : Int32) (p3 : Int32), la_I ac lo ad as b L xs hp I J nm_X11_turn nm_X12_turn [.int p0, .int p1, .int p2, .int p3]) {rc rs : Nat} (h1 : 1 ≤ rc) (h6 : 6 ≤ rs) (hK : ∀ M z rc' rs' l5 l6 l7, J M → rc ≤ rc' + 1 → rs ≤ rs' + 6 → X 2622 [some (.ref b), some (.ref (lo + 0)), some (.ref (lo + 108)), some (.ref (lo + 202)), some (.int iv), l5, l6, l7] [] (hp M z) rc' rs') {M : mm_M} (z : Nat) (hI : I M) (l5 l6 l7 : Option Value) : X 2425 [some (.ref b), some (.ref (lo + 0)), some (.ref (lo + 108)), some (.ref (lo + 202)), some (.int iv), l5, l6, l7] [] (hp M z) rc rs := by
  obtain ⟨v, M1, M2, C1, C2, hJ⟩ := hc (xs ((iv + 1) : Int32).toNatClampNeg) (xs ((iv + 2) : Int32).toNatClampNeg) (xs ((iv + 3) : Int32).toNatClampNeg) (xs ((iv + 4) : Int32).toNatClampNeg) M z hI
  refine xm_run hX 45 _ _ _ _ _ _ ?_
  conv => whnf
  refine ⟨0, _, _, rfl, hin 1 (by decide) (by decide), ?_⟩
  conv => whnf
  refine ⟨0, _, _, rfl, hin 2 (by decide) (by decide), ?_⟩
  conv => whnf
  refine ⟨0, _, _, rfl, hin 3 (by decide) (by decide), ?_⟩
  conv => whnf
  refine ⟨0, _, _, rfl, hin 4 (by decide) (by decide), ?_⟩
  conv => whnf
  refine ⟨xw_O (by rw [H.1]; rfl), xw1 0 0 (Nat.le_of_ble_eq_true rfl) (Nat.zero_le _) (Nat.zero_le _) C1 ?_⟩
  conv => whnf
  refine ⟨0, _, _, rfl, hin 1 (by decide) (by decide), ?_⟩
  conv => whnf
  refine ⟨0, _, _, rfl, hin 2 (by decide) (by decide), ?_⟩
  conv => whnf
  refine ⟨0, _, _, rfl, hin 3 (by decide) (by decide), ?_⟩
  conv => whnf
  refine ⟨0, _, _, rfl, hin 4 (by decide) (by decide), ?_⟩
  conv => whnf
  refine ⟨xw_O (by rw [H.1]; rfl), xw1 0 0 (Nat.le_of_ble_eq_true rfl) (Nat.zero_le _) (Nat.zero_le _) C2 ?_⟩
  conv => whnf
  refine ⟨fun _ => ?_, fun c => absurd rfl c⟩
  refine xm_run hX 0 _ _ _ _ _ _ ?_
  exact hK _ _ _ _ _ _ _ hJ (by omega) (by omega)
set_option maxRecDepth 100000 in
set_option maxHeartbeats 4000000 in
theorem lar_50 (H : mm_L ac lo hp) {I J : mm_M → Prop} {X : xm_X} (hX : (∀ pc L' st h rc rs, xm_G ac lo xp_fty xp_dfl xp.2.2.2.2.2.2.1 (xp_sv ad as (b, L, xs)) 1000 [] (xm_M xp ac lo xp_fty xp_dfl (xp_sv ad as (b, L, xs)) 1000) (fun pc => xl_L_law.lookup pc) (some .boolean) (fun r _ => r = .inl (some (.int 1))) X pc L' st h rc rs → X pc L' st h rc rs)) {iv : Int32} (hin : ∀ c : Int32, 0 ≤ c → c ≤ 5 → vp_in (iv + c) L) (hc : ∀ (p0 : Int32) (p1 : Int32) (p2 : Int32), la_I ac lo ad as b L xs hp I J nm_X11_kin nm_X12_kin [.int p0, .int p1, .int p2]) {rc rs : Nat} (h1 : 1 ≤ rc) (h6 : 6 ≤ rs) (hK : ∀ M z rc' rs' l5 l6 l7, J M → rc ≤ rc' + 1 → rs ≤ rs' + 6 → X 2622 [some (.ref b), some (.ref (lo + 0)), some (.ref (lo + 108)), some (.ref (lo + 202)), some (.int iv), l5, l6, l7] [] (hp M z) rc' rs') {M : mm_M} (z : Nat) (hI : I M) (l5 l6 l7 : Option Value) : X 2486 [some (.ref b), some (.ref (lo + 0)), some (.ref (lo + 108)), some (.ref (lo + 202)), some (.int iv), l5, l6, l7] [] (hp M z) rc rs := by
  obtain ⟨v, M1, M2, C1, C2, hJ⟩ := hc (xs ((iv + 1) : Int32).toNatClampNeg) (xs ((iv + 2) : Int32).toNatClampNeg) (xs ((iv + 3) : Int32).toNatClampNeg) M z hI
  refine xm_run hX 35 _ _ _ _ _ _ ?_
  conv => whnf
  refine ⟨0, _, _, rfl, hin 1 (by decide) (by decide), ?_⟩
  conv => whnf
  refine ⟨0, _, _, rfl, hin 2 (by decide) (by decide), ?_⟩
  conv => whnf
  refine ⟨0, _, _, rfl, hin 3 (by decide) (by decide), ?_⟩
  conv => whnf
  refine ⟨xw_O (by rw [H.1]; rfl), xw1 0 0 (Nat.le_of_ble_eq_true rfl) (Nat.zero_le _) (Nat.zero_le _) C1 ?_⟩
  conv => whnf
  refine ⟨0, _, _, rfl, hin 1 (by decide) (by decide), ?_⟩
  conv => whnf
  refine ⟨0, _, _, rfl, hin 2 (by decide) (by decide), ?_⟩
  conv => whnf
  refine ⟨0, _, _, rfl, hin 3 (by decide) (by decide), ?_⟩
  conv => whnf
  refine ⟨xw_O (by rw [H.1]; rfl), xw1 0 0 (Nat.le_of_ble_eq_true rfl) (Nat.zero_le _) (Nat.zero_le _) C2 ?_⟩
  conv => whnf
  refine ⟨fun _ => ?_, fun c => absurd rfl c⟩
  refine xm_run hX 0 _ _ _ _ _ _ ?_
  exact hK _ _ _ _ _ _ _ hJ (by omega) (by omega)
set_option maxRecDepth 100000 in
set_option maxHeartbeats 4000000 in
theorem lar_51 (H : mm_L ac lo hp) {I J : mm_M → Prop} {X : xm_X} (hX : (∀ pc L' st h rc rs, xm_G ac lo xp_fty xp_dfl xp.2.2.2.2.2.2.1 (xp_sv ad as (b, L, xs)) 1000 [] (xm_M xp ac lo xp_fty xp_dfl (xp_sv ad as (b, L, xs)) 1000) (fun pc => xl_L_law.lookup pc) (some .boolean) (fun r _ => r = .inl (some (.int 1))) X pc L' st h rc rs → X pc L' st h rc rs)) {iv : Int32} (hin : ∀ c : Int32, 0 ≤ c → c ≤ 5 → vp_in (iv + c) L) (hc : ∀ (p0 : Int32) (p1 : Int32), la_I ac lo ad as b L xs hp I J nm_X11_tensor nm_X12_tensor [.int p0, .int p1]) {rc rs : Nat} (h1 : 1 ≤ rc) (h6 : 6 ≤ rs) (hK : ∀ M z rc' rs' l5 l6 l7, J M → rc ≤ rc' + 1 → rs ≤ rs' + 6 → X 2622 [some (.ref b), some (.ref (lo + 0)), some (.ref (lo + 108)), some (.ref (lo + 202)), some (.int iv), l5, l6, l7] [] (hp M z) rc' rs') {M : mm_M} (z : Nat) (hI : I M) (l5 l6 l7 : Option Value) : X 2535 [some (.ref b), some (.ref (lo + 0)), some (.ref (lo + 108)), some (.ref (lo + 202)), some (.int iv), l5, l6, l7] [] (hp M z) rc rs := by
  obtain ⟨v, M1, M2, C1, C2, hJ⟩ := hc (xs ((iv + 1) : Int32).toNatClampNeg) (xs ((iv + 2) : Int32).toNatClampNeg) M z hI
  refine xm_run hX 25 _ _ _ _ _ _ ?_
  conv => whnf
  refine ⟨0, _, _, rfl, hin 1 (by decide) (by decide), ?_⟩
  conv => whnf
  refine ⟨0, _, _, rfl, hin 2 (by decide) (by decide), ?_⟩
  conv => whnf
  refine ⟨xw_O (by rw [H.1]; rfl), xw1 0 0 (Nat.le_of_ble_eq_true rfl) (Nat.zero_le _) (Nat.zero_le _) C1 ?_⟩
  conv => whnf
  refine ⟨0, _, _, rfl, hin 1 (by decide) (by decide), ?_⟩
  conv => whnf
  refine ⟨0, _, _, rfl, hin 2 (by decide) (by decide), ?_⟩
  conv => whnf
  refine ⟨xw_O (by rw [H.1]; rfl), xw1 0 0 (Nat.le_of_ble_eq_true rfl) (Nat.zero_le _) (Nat.zero_le _) C2 ?_⟩
  conv => whnf
  refine ⟨fun _ => ?_, fun c => absurd rfl c⟩
  refine xm_run hX 0 _ _ _ _ _ _ ?_
  exact hK _ _ _ _ _ _ _ hJ (by omega) (by omega)
set_option maxRecDepth 100000 in
set_option maxHeartbeats 4000000 in
theorem lar_52 (H : mm_L ac lo hp) {I J : mm_M → Prop} {X : xm_X} (hX : (∀ pc L' st h rc rs, xm_G ac lo xp_fty xp_dfl xp.2.2.2.2.2.2.1 (xp_sv ad as (b, L, xs)) 1000 [] (xm_M xp ac lo xp_fty xp_dfl (xp_sv ad as (b, L, xs)) 1000) (fun pc => xl_L_law.lookup pc) (some .boolean) (fun r _ => r = .inl (some (.int 1))) X pc L' st h rc rs → X pc L' st h rc rs)) {iv : Int32} (hin : ∀ c : Int32, 0 ≤ c → c ≤ 5 → vp_in (iv + c) L) (hc : ∀ (p0 : Int32), la_I ac lo ad as b L xs hp I J nm_X11_cost nm_X12_cost [.int p0]) {rc rs : Nat} (h1 : 1 ≤ rc) (h6 : 6 ≤ rs) (hK : ∀ M z rc' rs' l5 l6 l7, J M → rc ≤ rc' + 1 → rs ≤ rs' + 6 → X 2622 [some (.ref b), some (.ref (lo + 0)), some (.ref (lo + 108)), some (.ref (lo + 202)), some (.int iv), l5, l6, l7] [] (hp M z) rc' rs') {M : mm_M} (z : Nat) (hI : I M) (l5 l6 l7 : Option Value) : X 2572 [some (.ref b), some (.ref (lo + 0)), some (.ref (lo + 108)), some (.ref (lo + 202)), some (.int iv), l5, l6, l7] [] (hp M z) rc rs := by
  obtain ⟨v, M1, M2, C1, C2, hJ⟩ := hc (xs ((iv + 1) : Int32).toNatClampNeg) M z hI
  refine xm_run hX 15 _ _ _ _ _ _ ?_
  conv => whnf
  refine ⟨0, _, _, rfl, hin 1 (by decide) (by decide), ?_⟩
  conv => whnf
  refine ⟨xw_O (by rw [H.1]; rfl), xw1 0 0 (Nat.le_of_ble_eq_true rfl) (Nat.zero_le _) (Nat.zero_le _) C1 ?_⟩
  conv => whnf
  refine ⟨0, _, _, rfl, hin 1 (by decide) (by decide), ?_⟩
  conv => whnf
  refine ⟨xw_O (by rw [H.1]; rfl), xw1 0 0 (Nat.le_of_ble_eq_true rfl) (Nat.zero_le _) (Nat.zero_le _) C2 ?_⟩
  conv => whnf
  refine ⟨fun _ => ?_, fun c => absurd rfl c⟩
  refine xm_run hX 0 _ _ _ _ _ _ ?_
  exact hK _ _ _ _ _ _ _ hJ (by omega) (by omega)
set_option maxRecDepth 100000 in
set_option maxHeartbeats 4000000 in
theorem lar_53 (H : mm_L ac lo hp) {I J : mm_M → Prop} {X : xm_X} (hX : (∀ pc L' st h rc rs, xm_G ac lo xp_fty xp_dfl xp.2.2.2.2.2.2.1 (xp_sv ad as (b, L, xs)) 1000 [] (xm_M xp ac lo xp_fty xp_dfl (xp_sv ad as (b, L, xs)) 1000) (fun pc => xl_L_law.lookup pc) (some .boolean) (fun r _ => r = .inl (some (.int 1))) X pc L' st h rc rs → X pc L' st h rc rs)) {iv : Int32} (hin : ∀ c : Int32, 0 ≤ c → c ≤ 5 → vp_in (iv + c) L) (hc : ∀ (p0 : Int32), la_I ac lo ad as b L xs hp I J nm_X11_total nm_X12_total [.int p0]) {rc rs : Nat} (h1 : 1 ≤ rc) (h6 : 6 ≤ rs) (hK : ∀ M z rc' rs' l5 l6 l7, J M → rc ≤ rc' + 1 → rs ≤ rs' + 6 → X 2622 [some (.ref b), some (.ref (lo + 0)), some (.ref (lo + 108)), some (.ref (lo + 202)), some (.int iv), l5, l6, l7] [] (hp M z) rc' rs') {M : mm_M} (z : Nat) (hI : I M) (l5 l6 l7 : Option Value) : X 2597 [some (.ref b), some (.ref (lo + 0)), some (.ref (lo + 108)), some (.ref (lo + 202)), some (.int iv), l5, l6, l7] [] (hp M z) rc rs := by
  obtain ⟨v, M1, M2, C1, C2, hJ⟩ := hc (xs ((iv + 1) : Int32).toNatClampNeg) M z hI
  refine xm_run hX 15 _ _ _ _ _ _ ?_
  conv => whnf
  refine ⟨0, _, _, rfl, hin 1 (by decide) (by decide), ?_⟩
  conv => whnf
  refine ⟨xw_O (by rw [H.1]; rfl), xw1 0 0 (Nat.le_of_ble_eq_true rfl) (Nat.zero_le _) (Nat.zero_le _) C1 ?_⟩
  conv => whnf
  refine ⟨0, _, _, rfl, hin 1 (by decide) (by decide), ?_⟩
  conv => whnf
  refine ⟨xw_O (by rw [H.1]; rfl), xw1 0 0 (Nat.le_of_ble_eq_true rfl) (Nat.zero_le _) (Nat.zero_le _) C2 ?_⟩
  conv => whnf
  refine ⟨fun _ => ?_, fun c => absurd rfl c⟩
  refine xm_run hX 0 _ _ _ _ _ _ ?_
  exact hK _ _ _ _ _ _ _ hJ (by omega) (by omega)
end LA
