/-! the law: an arm a call, over what is said of the two methods -/
section LA
variable {ac : Nat → ClassId} {lo : Nat} {ad as : Nat → Nat} {b L : Nat} {xs : Nat → Int32} {hp : mm_M → Nat → xm_H}
set_option maxRecDepth 100000 in
set_option maxHeartbeats 4000000 in
theorem lar_27 (H : mm_L ac lo hp) {I J : mm_M → Prop} {X : xm_X} (hX : (∀ pc L' st h rc rs, xm_G ac lo xp_fty xp_dfl xp.2.2.2.2.2.2.1 (xp_sv ad as (b, L, xs)) 1000 [] (xm_M xp ac lo xp_fty xp_dfl (xp_sv ad as (b, L, xs)) 1000) (fun pc => xl_L_law.lookup pc) (some .boolean) (fun r _ => r = .inl (some (.int 1))) X pc L' st h rc rs → X pc L' st h rc rs)) {iv : Int32} (hin : ∀ c : Int32, 0 ≤ c → c ≤ 5 → vp_in (iv + c) L) (hc : ∀ (p0 : Int32) (p1 : Int32) (p2 : Int32), la_TJ ac lo ad as b L xs hp I J nm_L_meaning nm_X12_meaning [.int p0, .int p1, .int p2]) {rc rs : Nat} (h1 : 1 ≤ rc) (h6 : 6 ≤ rs) (hK : ∀ M z rc' rs' l5 l6 l7, J M → rc ≤ rc' + 1 → rs ≤ rs' + 6 → X 2622 [some (.ref b), some (.ref (lo + 0)), some (.ref (lo + 108)), some (.ref (lo + 202)), some (.int iv), l5, l6, l7] [] (hp M z) rc' rs') {M : mm_M} (z : Nat) (hI : I M) (l5 l6 l7 : Option Value) : X 1455 [some (.ref b), some (.ref (lo + 0)), some (.ref (lo + 108)), some (.ref (lo + 202)), some (.int iv), l5, l6, l7] [] (hp M z) rc rs := by
  obtain ⟨k, w, M1, M2, C1, C2, hk, hw, hJ⟩ := hc (xs ((iv + 1) : Int32).toNatClampNeg) (xs ((iv + 2) : Int32).toNatClampNeg) (xs ((iv + 3) : Int32).toNatClampNeg) M z hI
  refine xm_run hX 41 _ _ _ _ _ _ ?_
  conv => whnf
  refine ⟨0, _, _, rfl, hin 1 (by decide) (by decide), ?_⟩
  conv => whnf
  refine ⟨0, _, _, rfl, hin 2 (by decide) (by decide), ?_⟩
  conv => whnf
  refine ⟨0, _, _, rfl, hin 3 (by decide) (by decide), ?_⟩
  conv => whnf
  refine ⟨Nat.le_of_ble_eq_true rfl, la_call (Nat.le_of_ble_eq_true rfl) h1 h6 C1 (fun z => ?_)⟩
  conv => whnf
  refine ⟨Nat.le_of_ble_eq_true rfl, ?_⟩
  conv => whnf
  refine ⟨0, _, _, rfl, hin 1 (by decide) (by decide), ?_⟩
  conv => whnf
  refine ⟨0, _, _, rfl, hin 2 (by decide) (by decide), ?_⟩
  conv => whnf
  refine ⟨0, _, _, rfl, hin 3 (by decide) (by decide), ?_⟩
  conv => whnf
  refine ⟨xw_O (by rw [H.1]; rfl), xw1 0 0 (Nat.le_of_ble_eq_true rfl) (Nat.zero_le _) (Nat.zero_le _) (C2 _) ?_⟩
  conv => whnf
  refine ⟨Nat.le_of_ble_eq_true rfl, ?_⟩
  conv => whnf
  refine ⟨xw_O (by rw [H.1]; rfl), xw1 0 0 (Nat.le_of_ble_eq_true rfl) (Nat.zero_le _) (Nat.zero_le _) (la_thrown H 999 _ _) ?_⟩
  conv => whnf
  refine ⟨fun _ => ?_, fun c => absurd hk c⟩
  refine xm_run hX 2 _ _ _ _ _ _ ?_
  conv => whnf
  refine ⟨fun _ => ?_, fun hk0 => ?_⟩
  ·
    refine xm_run hX 1 _ _ _ _ _ _ ?_
    exact hK _ _ _ _ _ _ _ hJ (by omega) (by omega)
  ·
    have hk0 : k = 0 := Decidable.byContradiction hk0
    refine xm_run hX 6 _ _ _ _ _ _ ?_
    conv => whnf
    rw [H.1]
    conv => whnf
    refine ⟨rfl, (by unfold vp_in; decide), ?_⟩
    conv => whnf
    refine ⟨fun _ => ?_, fun c => absurd (by show lg_cmp (M2.2 202 0) _ = 0; rw [hw hk0]; exact la_cmp _) c⟩
    refine xm_run hX 1 _ _ _ _ _ _ ?_
    exact hK _ _ _ _ _ _ _ hJ (by omega) (by omega)
set_option maxRecDepth 100000 in
set_option maxHeartbeats 4000000 in
theorem lar_28 (H : mm_L ac lo hp) {I J : mm_M → Prop} {X : xm_X} (hX : (∀ pc L' st h rc rs, xm_G ac lo xp_fty xp_dfl xp.2.2.2.2.2.2.1 (xp_sv ad as (b, L, xs)) 1000 [] (xm_M xp ac lo xp_fty xp_dfl (xp_sv ad as (b, L, xs)) 1000) (fun pc => xl_L_law.lookup pc) (some .boolean) (fun r _ => r = .inl (some (.int 1))) X pc L' st h rc rs → X pc L' st h rc rs)) {iv : Int32} (hin : ∀ c : Int32, 0 ≤ c → c ≤ 5 → vp_in (iv + c) L) (hc : la_TI ac lo ad as b L xs hp I J nm_L_code nm_X12_code []) {rc rs : Nat} (h1 : 1 ≤ rc) (h6 : 6 ≤ rs) (hK : ∀ M z rc' rs' l5 l6 l7, J M → rc ≤ rc' + 1 → rs ≤ rs' + 6 → X 2622 [some (.ref b), some (.ref (lo + 0)), some (.ref (lo + 108)), some (.ref (lo + 202)), some (.int iv), l5, l6, l7] [] (hp M z) rc' rs') {M : mm_M} (z : Nat) (hI : I M) (l5 l6 l7 : Option Value) : X 1534 [some (.ref b), some (.ref (lo + 0)), some (.ref (lo + 108)), some (.ref (lo + 202)), some (.int iv), l5, l6, l7] [] (hp M z) rc rs := by
  obtain ⟨k, w, M1, M2, C1, C2, hk, hw, hJ⟩ := hc  M z hI
  refine xm_run hX 11 _ _ _ _ _ _ ?_
  conv => whnf
  refine ⟨Nat.le_of_ble_eq_true rfl, la_call (Nat.le_of_ble_eq_true rfl) h1 h6 C1 (fun z => ?_)⟩
  conv => whnf
  refine ⟨Nat.le_of_ble_eq_true rfl, ?_⟩
  conv => whnf
  refine ⟨xw_O (by rw [H.1]; rfl), xw1 0 0 (Nat.le_of_ble_eq_true rfl) (Nat.zero_le _) (Nat.zero_le _) (C2 _) ?_⟩
  conv => whnf
  refine ⟨Nat.le_of_ble_eq_true rfl, ?_⟩
  conv => whnf
  refine ⟨xw_O (by rw [H.1]; rfl), xw1 0 0 (Nat.le_of_ble_eq_true rfl) (Nat.zero_le _) (Nat.zero_le _) (la_thrown H 999 _ _) ?_⟩
  conv => whnf
  refine ⟨fun _ => ?_, fun c => absurd hk c⟩
  refine xm_run hX 2 _ _ _ _ _ _ ?_
  conv => whnf
  refine ⟨fun _ => ?_, fun hk0 => ?_⟩
  ·
    refine xm_run hX 1 _ _ _ _ _ _ ?_
    exact hK _ _ _ _ _ _ _ hJ (by omega) (by omega)
  ·
    have hk0 : k = 0 := Decidable.byContradiction hk0
    refine xm_run hX 7 _ _ _ _ _ _ ?_
    conv => whnf
    rw [H.1]
    conv => whnf
    refine ⟨rfl, (by unfold vp_in; decide), ?_⟩
    conv => whnf
    refine ⟨fun _ => ?_, fun c => absurd (by show lg_cmp (M2.2 202 0) _ = 0; rw [hw hk0]; exact la_cmp _) c⟩
    refine xm_run hX 1 _ _ _ _ _ _ ?_
    exact hK _ _ _ _ _ _ _ hJ (by omega) (by omega)
set_option maxRecDepth 100000 in
set_option maxHeartbeats 4000000 in
theorem lar_29 (H : mm_L ac lo hp) {I J : mm_M → Prop} {X : xm_X} (hX : (∀ pc L' st h rc rs, xm_G ac lo xp_fty xp_dfl xp.2.2.2.2.2.2.1 (xp_sv ad as (b, L, xs)) 1000 [] (xm_M xp ac lo xp_fty xp_dfl (xp_sv ad as (b, L, xs)) 1000) (fun pc => xl_L_law.lookup pc) (some .boolean) (fun r _ => r = .inl (some (.int 1))) X pc L' st h rc rs → X pc L' st h rc rs)) {iv : Int32} (hin : ∀ c : Int32, 0 ≤ c → c ≤ 5 → vp_in (iv + c) L) (hc : ∀ (p0 : Int32), la_I ac lo ad as b L xs hp I J nm_X11_codes nm_X12_codes [.int p0]) {rc rs : Nat} (h1 : 1 ≤ rc) (h6 : 6 ≤ rs) (hK : ∀ M z rc' rs' l5 l6 l7, J M → rc ≤ rc' + 1 → rs ≤ rs' + 6 → X 2622 [some (.ref b), some (.ref (lo + 0)), some (.ref (lo + 108)), some (.ref (lo + 202)), some (.int iv), l5, l6, l7] [] (hp M z) rc' rs') {M : mm_M} (z : Nat) (hI : I M) (l5 l6 l7 : Option Value) : X 1578 [some (.ref b), some (.ref (lo + 0)), some (.ref (lo + 108)), some (.ref (lo + 202)), some (.int iv), l5, l6, l7] [] (hp M z) rc rs := by
  obtain ⟨v, M1, M2, C1, C2, hJ⟩ := hc (xs ((iv + 1) : Int32).toNatClampNeg) M z hI
  refine xm_run hX 15 _ _ _ _ _ _ ?_
  conv => whnf
  refine ⟨0, _, _, rfl, hin 1 (by decide) (by decide), ?_⟩
  conv => whnf
  refine ⟨xw_O (by rw [H.1]; rfl), xw1 0 0 (Nat.le_of_ble_eq_true rfl) (Nat.zero_le _) (Nat.zero_le _) C1 ?_⟩
  conv => whnf
  refine ⟨0, _, _, rfl, hin 1 (by decide) (by decide), ?_⟩
  conv => whnf
  refine ⟨xw_O (by rw [H.1]; rfl), xw1 0 0 (Nat.le_of_ble_eq_true rfl) (Nat.zero_le _) (Nat.zero_le _) C2 ?_⟩
  conv => whnf
  refine ⟨fun _ => ?_, fun c => absurd rfl c⟩
  refine xm_run hX 0 _ _ _ _ _ _ ?_
  exact hK _ _ _ _ _ _ _ hJ (by omega) (by omega)
set_option maxRecDepth 100000 in
set_option maxHeartbeats 4000000 in
theorem lar_30 (H : mm_L ac lo hp) {I J : mm_M → Prop} {X : xm_X} (hX : (∀ pc L' st h rc rs, xm_G ac lo xp_fty xp_dfl xp.2.2.2.2.2.2.1 (xp_sv ad as (b, L, xs)) 1000 [] (xm_M xp ac lo xp_fty xp_dfl (xp_sv ad as (b, L, xs)) 1000) (fun pc => xl_L_law.lookup pc) (some .boolean) (fun r _ => r = .inl (some (.int 1))) X pc L' st h rc rs → X pc L' st h rc rs)) {iv : Int32} (hin : ∀ c : Int32, 0 ≤ c → c ≤ 5 → vp_in (iv + c) L) (hc : ∀ (p0 : Int32) (p1 : Int32), la_I ac lo ad as b L xs hp I J nm_X11_pauli nm_X12_pauli [.int p0, .int p1]) {rc rs : Nat} (h1 : 1 ≤ rc) (h6 : 6 ≤ rs) (hK : ∀ M z rc' rs' l5 l6 l7, J M → rc ≤ rc' + 1 → rs ≤ rs' + 6 → X 2622 [some (.ref b), some (.ref (lo + 0)), some (.ref (lo + 108)), some (.ref (lo + 202)), some (.int iv), l5, l6, l7] [] (hp M z) rc' rs') {M : mm_M} (z : Nat) (hI : I M) (l5 l6 l7 : Option Value) : X 1603 [some (.ref b), some (.ref (lo + 0)), some (.ref (lo + 108)), some (.ref (lo + 202)), some (.int iv), l5, l6, l7] [] (hp M z) rc rs := by
  obtain ⟨v, M1, M2, C1, C2, hJ⟩ := hc (xs ((iv + 1) : Int32).toNatClampNeg) (xs ((iv + 2) : Int32).toNatClampNeg) M z hI
  refine xm_run hX 25 _ _ _ _ _ _ ?_
  conv => whnf
  refine ⟨0, _, _, rfl, hin 1 (by decide) (by decide), ?_⟩
  conv => whnf
  refine ⟨0, _, _, rfl, hin 2 (by decide) (by decide), ?_⟩
  conv => whnf
  refine ⟨xw_O (by rw [H.1]; rfl), xw1 0 0 (Nat.le_of_ble_eq_true rfl) (Nat.zero_le _) (Nat.zero_le _) C1 ?_⟩
  conv => whnf
  refine ⟨0, _, _, rfl, hin 1 (by decide) (by decide), ?_⟩
  conv => whnf
  refine ⟨0, _, _, rfl, hin 2 (by decide) (by decide), ?_⟩
  conv => whnf
  refine ⟨xw_O (by rw [H.1]; rfl), xw1 0 0 (Nat.le_of_ble_eq_true rfl) (Nat.zero_le _) (Nat.zero_le _) C2 ?_⟩
  conv => whnf
  refine ⟨fun _ => ?_, fun c => absurd rfl c⟩
  refine xm_run hX 0 _ _ _ _ _ _ ?_
  exact hK _ _ _ _ _ _ _ hJ (by omega) (by omega)
set_option maxRecDepth 100000 in
set_option maxHeartbeats 4000000 in
theorem lar_31 (H : mm_L ac lo hp) {I J : mm_M → Prop} {X : xm_X} (hX : (∀ pc L' st h rc rs, xm_G ac lo xp_fty xp_dfl xp.2.2.2.2.2.2.1 (xp_sv ad as (b, L, xs)) 1000 [] (xm_M xp ac lo xp_fty xp_dfl (xp_sv ad as (b, L, xs)) 1000) (fun pc => xl_L_law.lookup pc) (some .boolean) (fun r _ => r = .inl (some (.int 1))) X pc L' st h rc rs → X pc L' st h rc rs)) {iv : Int32} (hin : ∀ c : Int32, 0 ≤ c → c ≤ 5 → vp_in (iv + c) L) (hc : ∀ (p0 : Int32), la_I ac lo ad as b L xs hp I J nm_X11_form nm_X12_form [.int p0]) {rc rs : Nat} (h1 : 1 ≤ rc) (h6 : 6 ≤ rs) (hK : ∀ M z rc' rs' l5 l6 l7, J M → rc ≤ rc' + 1 → rs ≤ rs' + 6 → X 2622 [some (.ref b), some (.ref (lo + 0)), some (.ref (lo + 108)), some (.ref (lo + 202)), some (.int iv), l5, l6, l7] [] (hp M z) rc' rs') {M : mm_M} (z : Nat) (hI : I M) (l5 l6 l7 : Option Value) : X 1640 [some (.ref b), some (.ref (lo + 0)), some (.ref (lo + 108)), some (.ref (lo + 202)), some (.int iv), l5, l6, l7] [] (hp M z) rc rs := by
  obtain ⟨v, M1, M2, C1, C2, hJ⟩ := hc (xs ((iv + 1) : Int32).toNatClampNeg) M z hI
  refine xm_run hX 15 _ _ _ _ _ _ ?_
  conv => whnf
  refine ⟨0, _, _, rfl, hin 1 (by decide) (by decide), ?_⟩
  conv => whnf
  refine ⟨xw_O (by rw [H.1]; rfl), xw1 0 0 (Nat.le_of_ble_eq_true rfl) (Nat.zero_le _) (Nat.zero_le _) C1 ?_⟩
  conv => whnf
  refine ⟨0, _, _, rfl, hin 1 (by decide) (by decide), ?_⟩
  conv => whnf
  refine ⟨xw_O (by rw [H.1]; rfl), xw1 0 0 (Nat.le_of_ble_eq_true rfl) (Nat.zero_le _) (Nat.zero_le _) C2 ?_⟩
  conv => whnf
  refine ⟨fun _ => ?_, fun c => absurd rfl c⟩
  refine xm_run hX 0 _ _ _ _ _ _ ?_
  exact hK _ _ _ _ _ _ _ hJ (by omega) (by omega)
set_option maxRecDepth 100000 in
set_option maxHeartbeats 4000000 in
theorem lar_32 (H : mm_L ac lo hp) {I J : mm_M → Prop} {X : xm_X} (hX : (∀ pc L' st h rc rs, xm_G ac lo xp_fty xp_dfl xp.2.2.2.2.2.2.1 (xp_sv ad as (b, L, xs)) 1000 [] (xm_M xp ac lo xp_fty xp_dfl (xp_sv ad as (b, L, xs)) 1000) (fun pc => xl_L_law.lookup pc) (some .boolean) (fun r _ => r = .inl (some (.int 1))) X pc L' st h rc rs → X pc L' st h rc rs)) {iv : Int32} (hin : ∀ c : Int32, 0 ≤ c → c ≤ 5 → vp_in (iv + c) L) (hc : ∀ (p0 : Int32), la_I ac lo ad as b L xs hp I J nm_X11_letter nm_X12_letter [.int p0]) {rc rs : Nat} (h1 : 1 ≤ rc) (h6 : 6 ≤ rs) (hK : ∀ M z rc' rs' l5 l6 l7, J M → rc ≤ rc' + 1 → rs ≤ rs' + 6 → X 2622 [some (.ref b), some (.ref (lo + 0)), some (.ref (lo + 108)), some (.ref (lo + 202)), some (.int iv), l5, l6, l7] [] (hp M z) rc' rs') {M : mm_M} (z : Nat) (hI : I M) (l5 l6 l7 : Option Value) : X 1665 [some (.ref b), some (.ref (lo + 0)), some (.ref (lo + 108)), some (.ref (lo + 202)), some (.int iv), l5, l6, l7] [] (hp M z) rc rs := by
  obtain ⟨v, M1, M2, C1, C2, hJ⟩ := hc (xs ((iv + 1) : Int32).toNatClampNeg) M z hI
  refine xm_run hX 15 _ _ _ _ _ _ ?_
  conv => whnf
  refine ⟨0, _, _, rfl, hin 1 (by decide) (by decide), ?_⟩
  conv => whnf
  refine ⟨xw_O (by rw [H.1]; rfl), xw1 0 0 (Nat.le_of_ble_eq_true rfl) (Nat.zero_le _) (Nat.zero_le _) C1 ?_⟩
  conv => whnf
  refine ⟨0, _, _, rfl, hin 1 (by decide) (by decide), ?_⟩
  conv => whnf
  refine ⟨xw_O (by rw [H.1]; rfl), xw1 0 0 (Nat.le_of_ble_eq_true rfl) (Nat.zero_le _) (Nat.zero_le _) C2 ?_⟩
  conv => whnf
  refine ⟨fun _ => ?_, fun c => absurd rfl c⟩
  refine xm_run hX 0 _ _ _ _ _ _ ?_
  exact hK _ _ _ _ _ _ _ hJ (by omega) (by omega)
set_option maxRecDepth 100000 in
set_option maxHeartbeats 4000000 in
theorem lar_33 (H : mm_L ac lo hp) {I J : mm_M → Prop} {X : xm_X} (hX : (∀ pc L' st h rc rs, xm_G ac lo xp_fty xp_dfl xp.2.2.2.2.2.2.1 (xp_sv ad as (b, L, xs)) 1000 [] (xm_M xp ac lo xp_fty xp_dfl (xp_sv ad as (b, L, xs)) 1000) (fun pc => xl_L_law.lookup pc) (some .boolean) (fun r _ => r = .inl (some (.int 1))) X pc L' st h rc rs → X pc L' st h rc rs)) {iv : Int32} (hin : ∀ c : Int32, 0 ≤ c → c ≤ 5 → vp_in (iv + c) L) (hc : ∀ (p0 : Int32), la_I ac lo ad as b L xs hp I J nm_X11_least nm_X12_least [.int p0]) {rc rs : Nat} (h1 : 1 ≤ rc) (h6 : 6 ≤ rs) (hK : ∀ M z rc' rs' l5 l6 l7, J M → rc ≤ rc' + 1 → rs ≤ rs' + 6 → X 2622 [some (.ref b), some (.ref (lo + 0)), some (.ref (lo + 108)), some (.ref (lo + 202)), some (.int iv), l5, l6, l7] [] (hp M z) rc' rs') {M : mm_M} (z : Nat) (hI : I M) (l5 l6 l7 : Option Value) : X 1690 [some (.ref b), some (.ref (lo + 0)), some (.ref (lo + 108)), some (.ref (lo + 202)), some (.int iv), l5, l6, l7] [] (hp M z) rc rs := by
  obtain ⟨v, M1, M2, C1, C2, hJ⟩ := hc (xs ((iv + 1) : Int32).toNatClampNeg) M z hI
  refine xm_run hX 15 _ _ _ _ _ _ ?_
  conv => whnf
  refine ⟨0, _, _, rfl, hin 1 (by decide) (by decide), ?_⟩
  conv => whnf
  refine ⟨xw_O (by rw [H.1]; rfl), xw1 0 0 (Nat.le_of_ble_eq_true rfl) (Nat.zero_le _) (Nat.zero_le _) C1 ?_⟩
  conv => whnf
  refine ⟨0, _, _, rfl, hin 1 (by decide) (by decide), ?_⟩
  conv => whnf
  refine ⟨xw_O (by rw [H.1]; rfl), xw1 0 0 (Nat.le_of_ble_eq_true rfl) (Nat.zero_le _) (Nat.zero_le _) C2 ?_⟩
  conv => whnf
  refine ⟨fun _ => ?_, fun c => absurd rfl c⟩
  refine xm_run hX 0 _ _ _ _ _ _ ?_
  exact hK _ _ _ _ _ _ _ hJ (by omega) (by omega)
set_option maxRecDepth 100000 in
set_option maxHeartbeats 4000000 in
theorem lar_34 (H : mm_L ac lo hp) {I J : mm_M → Prop} {X : xm_X} (hX : (∀ pc L' st h rc rs, xm_G ac lo xp_fty xp_dfl xp.2.2.2.2.2.2.1 (xp_sv ad as (b, L, xs)) 1000 [] (xm_M xp ac lo xp_fty xp_dfl (xp_sv ad as (b, L, xs)) 1000) (fun pc => xl_L_law.lookup pc) (some .boolean) (fun r _ => r = .inl (some (.int 1))) X pc L' st h rc rs → X pc L' st h rc rs)) {iv : Int32} (hin : ∀ c : Int32, 0 ≤ c → c ≤ 5 → vp_in (iv + c) L) (hc : ∀ (p0 : Int32) (p1 : Int32) (p2 : Int32), (p2 = 0 ∨ p2 = 1) → la_I ac lo ad as b L xs hp I J nm_X11_link nm_X12_link [.int p0, .int p1, .int p2]) {rc rs : Nat} (h1 : 1 ≤ rc) (h6 : 6 ≤ rs) (hK : ∀ M z rc' rs' l5 l6 l7, J M → rc ≤ rc' + 1 → rs ≤ rs' + 6 → X 2622 [some (.ref b), some (.ref (lo + 0)), some (.ref (lo + 108)), some (.ref (lo + 202)), some (.int iv), l5, l6, l7] [] (hp M z) rc' rs') {M : mm_M} (z : Nat) (hI : I M) (l5 l6 l7 : Option Value) : X 1715 [some (.ref b), some (.ref (lo + 0)), some (.ref (lo + 108)), some (.ref (lo + 202)), some (.int iv), l5, l6, l7] [] (hp M z) rc rs := by
  refine xm_run hX 17 _ _ _ _ _ _ ?_
  conv => whnf
  refine ⟨0, _, _, rfl, hin 1 (by decide) (by decide), ?_⟩
  conv => whnf
  refine ⟨0, _, _, rfl, hin 2 (by decide) (by decide), ?_⟩
  conv => whnf
  refine ⟨0, _, _, rfl, hin 3 (by decide) (by decide), ?_⟩
  conv => whnf
  refine ⟨fun c0 => ?_, fun c0 => ?_⟩
  ·
    obtain ⟨v, M1, M2, C1, C2, hJ⟩ := hc (xs ((iv + 1) : Int32).toNatClampNeg) (xs ((iv + 2) : Int32).toNatClampNeg) (0) (by decide) M z hI
    refine xm_run hX 19 _ _ _ _ _ _ ?_
    conv => whnf
    refine ⟨xw_O (by rw [H.1]; rfl), xw1 0 0 (Nat.le_of_ble_eq_true rfl) (Nat.zero_le _) (Nat.zero_le _) C1 ?_⟩
    conv => whnf
    refine ⟨0, _, _, rfl, hin 1 (by decide) (by decide), ?_⟩
    conv => whnf
    refine ⟨0, _, _, rfl, hin 2 (by decide) (by decide), ?_⟩
    conv => whnf
    refine ⟨0, _, _, rfl, hin 3 (by decide) (by decide), ?_⟩
    conv => whnf
    refine ⟨fun _ => ?_, fun c => absurd c0 c⟩
    refine xm_run hX 3 _ _ _ _ _ _ ?_
    conv => whnf
    refine ⟨xw_O (by rw [H.1]; rfl), xw1 0 0 (Nat.le_of_ble_eq_true rfl) (Nat.zero_le _) (Nat.zero_le _) C2 ?_⟩
    conv => whnf
    refine ⟨fun _ => ?_, fun c => absurd rfl c⟩
    refine xm_run hX 0 _ _ _ _ _ _ ?_
    exact hK _ _ _ _ _ _ _ hJ (by omega) (by omega)
  ·
    obtain ⟨v, M1, M2, C1, C2, hJ⟩ := hc (xs ((iv + 1) : Int32).toNatClampNeg) (xs ((iv + 2) : Int32).toNatClampNeg) (1) (by decide) M z hI
    refine xm_run hX 20 _ _ _ _ _ _ ?_
    conv => whnf
    refine ⟨xw_O (by rw [H.1]; rfl), xw1 0 0 (Nat.le_of_ble_eq_true rfl) (Nat.zero_le _) (Nat.zero_le _) C1 ?_⟩
    conv => whnf
    refine ⟨0, _, _, rfl, hin 1 (by decide) (by decide), ?_⟩
    conv => whnf
    refine ⟨0, _, _, rfl, hin 2 (by decide) (by decide), ?_⟩
    conv => whnf
    refine ⟨0, _, _, rfl, hin 3 (by decide) (by decide), ?_⟩
    conv => whnf
    refine ⟨fun c => absurd c c0, fun _ => ?_⟩
    refine xm_run hX 4 _ _ _ _ _ _ ?_
    conv => whnf
    refine ⟨xw_O (by rw [H.1]; rfl), xw1 0 0 (Nat.le_of_ble_eq_true rfl) (Nat.zero_le _) (Nat.zero_le _) C2 ?_⟩
    conv => whnf
    refine ⟨fun _ => ?_, fun c => absurd rfl c⟩
    refine xm_run hX 0 _ _ _ _ _ _ ?_
    exact hK _ _ _ _ _ _ _ hJ (by omega) (by omega)
set_option maxRecDepth 100000 in
set_option maxHeartbeats 4000000 in
theorem lar_35 (H : mm_L ac lo hp) {I J : mm_M → Prop} {X : xm_X} (hX : (∀ pc L' st h rc rs, xm_G ac lo xp_fty xp_dfl xp.2.2.2.2.2.2.1 (xp_sv ad as (b, L, xs)) 1000 [] (xm_M xp ac lo xp_fty xp_dfl (xp_sv ad as (b, L, xs)) 1000) (fun pc => xl_L_law.lookup pc) (some .boolean) (fun r _ => r = .inl (some (.int 1))) X pc L' st h rc rs → X pc L' st h rc rs)) {iv : Int32} (hin : ∀ c : Int32, 0 ≤ c → c ≤ 5 → vp_in (iv + c) L) (hc : ∀ (p0 : Int32), la_I ac lo ad as b L xs hp I J nm_X11_route nm_X12_route [.int p0]) {rc rs : Nat} (h1 : 1 ≤ rc) (h6 : 6 ≤ rs) (hK : ∀ M z rc' rs' l5 l6 l7, J M → rc ≤ rc' + 1 → rs ≤ rs' + 6 → X 2622 [some (.ref b), some (.ref (lo + 0)), some (.ref (lo + 108)), some (.ref (lo + 202)), some (.int iv), l5, l6, l7] [] (hp M z) rc' rs') {M : mm_M} (z : Nat) (hI : I M) (l5 l6 l7 : Option Value) : X 1780 [some (.ref b), some (.ref (lo + 0)), some (.ref (lo + 108)), some (.ref (lo + 202)), some (.int iv), l5, l6, l7] [] (hp M z) rc rs := by
  obtain ⟨v, M1, M2, C1, C2, hJ⟩ := hc (xs ((iv + 1) : Int32).toNatClampNeg) M z hI
  refine xm_run hX 15 _ _ _ _ _ _ ?_
  conv => whnf
  refine ⟨0, _, _, rfl, hin 1 (by decide) (by decide), ?_⟩
  conv => whnf
  refine ⟨xw_O (by rw [H.1]; rfl), xw1 0 0 (Nat.le_of_ble_eq_true rfl) (Nat.zero_le _) (Nat.zero_le _) C1 ?_⟩
  conv => whnf
  refine ⟨0, _, _, rfl, hin 1 (by decide) (by decide), ?_⟩
  conv => whnf
  refine ⟨xw_O (by rw [H.1]; rfl), xw1 0 0 (Nat.le_of_ble_eq_true rfl) (Nat.zero_le _) (Nat.zero_le _) C2 ?_⟩
  conv => whnf
  refine ⟨fun _ => ?_, fun c => absurd rfl c⟩
  refine xm_run hX 0 _ _ _ _ _ _ ?_
  exact hK _ _ _ _ _ _ _ hJ (by omega) (by omega)
end LA
