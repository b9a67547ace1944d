/-! the law: an arm a call, over what is said of the two methods -/
section LA
variable {ac : Nat → ClassId} {lo : Nat} {ad as : Nat → Nat} {b L : Nat} {xs : Nat → Int32} {hp : mm_M → Nat → xm_H}
set_option maxRecDepth 100000 in
set_option maxHeartbeats 4000000 in
theorem lar_0 (H : mm_L ac lo hp) {I J : mm_M → Prop} {X : xm_X} (hX : (∀ pc L' st h rc rs, xm_G ac lo xp_fty xp_dfl xp.2.2.2.2.2.2.1 (xp_sv ad as (b, L, xs)) 1000 [] (xm_M xp ac lo xp_fty xp_dfl (xp_sv ad as (b, L, xs)) 1000) (fun pc => xl_L_law.lookup pc) (some .boolean) (fun r _ => r = .inl (some (.int 1))) X pc L' st h rc rs → X pc L' st h rc rs)) {iv : Int32} (hin : ∀ c : Int32, 0 ≤ c → c ≤ 5 → vp_in (iv + c) L) (hc : ∀ (p0 : Int64) (p1 : Int32), la_I ac lo ad as b L xs hp I J nm_X11_type nm_X12_type [.long p0, .int p1]) {rc rs : Nat} (h1 : 1 ≤ rc) (h6 : 6 ≤ rs) (hK : ∀ M z rc' rs' l5 l6 l7, J M → rc ≤ rc' + 1 → rs ≤ rs' + 6 → X 2622 [some (.ref b), some (.ref (lo + 0)), some (.ref (lo + 108)), some (.ref (lo + 202)), some (.int iv), l5, l6, l7] [] (hp M z) rc' rs') {M : mm_M} (z : Nat) (hI : I M) (l5 l6 l7 : Option Value) : X 272 [some (.ref b), some (.ref (lo + 0)), some (.ref (lo + 108)), some (.ref (lo + 202)), some (.int iv), l5, l6, l7] [] (hp M z) rc rs := by
  obtain ⟨v, M1, M2, C1, C2, hJ⟩ := hc ((((xs ((iv + 1) : Int32).toNatClampNeg)).toInt64 <<< ((32 : Int32).toInt64 &&& 63)) ||| (((xs ((iv + 2) : Int32).toNatClampNeg)).toInt64 &&& 4294967295)) (xs ((iv + 3) : Int32).toNatClampNeg) M z hI
  refine xm_run hX 49 _ _ _ _ _ _ ?_
  conv => whnf
  refine ⟨0, _, _, rfl, hin 1 (by decide) (by decide), ?_⟩
  conv => whnf
  refine ⟨0, _, _, rfl, hin 2 (by decide) (by decide), ?_⟩
  conv => whnf
  refine ⟨0, _, _, rfl, hin 3 (by decide) (by decide), ?_⟩
  conv => whnf
  refine ⟨xw_O (by rw [H.1]; rfl), xw1 0 0 (Nat.le_of_ble_eq_true rfl) (Nat.zero_le _) (Nat.zero_le _) C1 ?_⟩
  conv => whnf
  refine ⟨0, _, _, rfl, hin 1 (by decide) (by decide), ?_⟩
  conv => whnf
  refine ⟨0, _, _, rfl, hin 2 (by decide) (by decide), ?_⟩
  conv => whnf
  refine ⟨0, _, _, rfl, hin 3 (by decide) (by decide), ?_⟩
  conv => whnf
  refine ⟨xw_O (by rw [H.1]; rfl), xw1 0 0 (Nat.le_of_ble_eq_true rfl) (Nat.zero_le _) (Nat.zero_le _) C2 ?_⟩
  conv => whnf
  refine ⟨fun _ => ?_, fun c => absurd rfl c⟩
  refine xm_run hX 0 _ _ _ _ _ _ ?_
  exact hK _ _ _ _ _ _ _ hJ (by omega) (by omega)
set_option maxRecDepth 100000 in
set_option maxHeartbeats 4000000 in
theorem lar_1 (H : mm_L ac lo hp) {I J : mm_M → Prop} {X : xm_X} (hX : (∀ pc L' st h rc rs, xm_G ac lo xp_fty xp_dfl xp.2.2.2.2.2.2.1 (xp_sv ad as (b, L, xs)) 1000 [] (xm_M xp ac lo xp_fty xp_dfl (xp_sv ad as (b, L, xs)) 1000) (fun pc => xl_L_law.lookup pc) (some .boolean) (fun r _ => r = .inl (some (.int 1))) X pc L' st h rc rs → X pc L' st h rc rs)) {iv : Int32} (hin : ∀ c : Int32, 0 ≤ c → c ≤ 5 → vp_in (iv + c) L) (hc : la_TI ac lo ad as b L xs hp I J nm_L_circuit nm_X12_circuit []) {rc rs : Nat} (h1 : 1 ≤ rc) (h6 : 6 ≤ rs) (hK : ∀ M z rc' rs' l5 l6 l7, J M → rc ≤ rc' + 1 → rs ≤ rs' + 6 → X 2622 [some (.ref b), some (.ref (lo + 0)), some (.ref (lo + 108)), some (.ref (lo + 202)), some (.int iv), l5, l6, l7] [] (hp M z) rc' rs') {M : mm_M} (z : Nat) (hI : I M) (l5 l6 l7 : Option Value) : X 341 [some (.ref b), some (.ref (lo + 0)), some (.ref (lo + 108)), some (.ref (lo + 202)), some (.int iv), l5, l6, l7] [] (hp M z) rc rs := by
  obtain ⟨k, w, M1, M2, C1, C2, hk, hw, hJ⟩ := hc  M z hI
  refine xm_run hX 11 _ _ _ _ _ _ ?_
  conv => whnf
  refine ⟨Nat.le_of_ble_eq_true rfl, la_call (Nat.le_of_ble_eq_true rfl) h1 h6 C1 (fun z => ?_)⟩
  conv => whnf
  refine ⟨Nat.le_of_ble_eq_true rfl, ?_⟩
  conv => whnf
  refine ⟨xw_O (by rw [H.1]; rfl), xw1 0 0 (Nat.le_of_ble_eq_true rfl) (Nat.zero_le _) (Nat.zero_le _) (C2 _) ?_⟩
  conv => whnf
  refine ⟨Nat.le_of_ble_eq_true rfl, ?_⟩
  conv => whnf
  refine ⟨xw_O (by rw [H.1]; rfl), xw1 0 0 (Nat.le_of_ble_eq_true rfl) (Nat.zero_le _) (Nat.zero_le _) (la_thrown H 999 _ _) ?_⟩
  conv => whnf
  refine ⟨fun _ => ?_, fun c => absurd hk c⟩
  refine xm_run hX 2 _ _ _ _ _ _ ?_
  conv => whnf
  refine ⟨fun _ => ?_, fun hk0 => ?_⟩
  ·
    refine xm_run hX 1 _ _ _ _ _ _ ?_
    exact hK _ _ _ _ _ _ _ hJ (by omega) (by omega)
  ·
    have hk0 : k = 0 := Decidable.byContradiction hk0
    refine xm_run hX 7 _ _ _ _ _ _ ?_
    conv => whnf
    rw [H.1]
    conv => whnf
    refine ⟨rfl, (by unfold vp_in; decide), ?_⟩
    conv => whnf
    refine ⟨fun _ => ?_, fun c => absurd (by show lg_cmp (M2.2 202 0) _ = 0; rw [hw hk0]; exact la_cmp _) c⟩
    refine xm_run hX 1 _ _ _ _ _ _ ?_
    exact hK _ _ _ _ _ _ _ hJ (by omega) (by omega)
set_option maxRecDepth 100000 in
set_option maxHeartbeats 4000000 in
theorem lar_2 (H : mm_L ac lo hp) {I J : mm_M → Prop} {X : xm_X} (hX : (∀ pc L' st h rc rs, xm_G ac lo xp_fty xp_dfl xp.2.2.2.2.2.2.1 (xp_sv ad as (b, L, xs)) 1000 [] (xm_M xp ac lo xp_fty xp_dfl (xp_sv ad as (b, L, xs)) 1000) (fun pc => xl_L_law.lookup pc) (some .boolean) (fun r _ => r = .inl (some (.int 1))) X pc L' st h rc rs → X pc L' st h rc rs)) {iv : Int32} (hin : ∀ c : Int32, 0 ≤ c → c ≤ 5 → vp_in (iv + c) L) (hc : ∀ (p0 : Int32), la_I ac lo ad as b L xs hp I J nm_X11_fault nm_X12_fault [.int p0]) {rc rs : Nat} (h1 : 1 ≤ rc) (h6 : 6 ≤ rs) (hK : ∀ M z rc' rs' l5 l6 l7, J M → rc ≤ rc' + 1 → rs ≤ rs' + 6 → X 2622 [some (.ref b), some (.ref (lo + 0)), some (.ref (lo + 108)), some (.ref (lo + 202)), some (.int iv), l5, l6, l7] [] (hp M z) rc' rs') {M : mm_M} (z : Nat) (hI : I M) (l5 l6 l7 : Option Value) : X 385 [some (.ref b), some (.ref (lo + 0)), some (.ref (lo + 108)), some (.ref (lo + 202)), some (.int iv), l5, l6, l7] [] (hp M z) rc rs := by
  obtain ⟨v, M1, M2, C1, C2, hJ⟩ := hc (xs ((iv + 1) : Int32).toNatClampNeg) M z hI
  refine xm_run hX 15 _ _ _ _ _ _ ?_
  conv => whnf
  refine ⟨0, _, _, rfl, hin 1 (by decide) (by decide), ?_⟩
  conv => whnf
  refine ⟨xw_O (by rw [H.1]; rfl), xw1 0 0 (Nat.le_of_ble_eq_true rfl) (Nat.zero_le _) (Nat.zero_le _) C1 ?_⟩
  conv => whnf
  refine ⟨0, _, _, rfl, hin 1 (by decide) (by decide), ?_⟩
  conv => whnf
  refine ⟨xw_O (by rw [H.1]; rfl), xw1 0 0 (Nat.le_of_ble_eq_true rfl) (Nat.zero_le _) (Nat.zero_le _) C2 ?_⟩
  conv => whnf
  refine ⟨fun _ => ?_, fun c => absurd rfl c⟩
  refine xm_run hX 0 _ _ _ _ _ _ ?_
  exact hK _ _ _ _ _ _ _ hJ (by omega) (by omega)
set_option maxRecDepth 100000 in
set_option maxHeartbeats 4000000 in
theorem lar_3 (H : mm_L ac lo hp) {I J : mm_M → Prop} {X : xm_X} (hX : (∀ pc L' st h rc rs, xm_G ac lo xp_fty xp_dfl xp.2.2.2.2.2.2.1 (xp_sv ad as (b, L, xs)) 1000 [] (xm_M xp ac lo xp_fty xp_dfl (xp_sv ad as (b, L, xs)) 1000) (fun pc => xl_L_law.lookup pc) (some .boolean) (fun r _ => r = .inl (some (.int 1))) X pc L' st h rc rs → X pc L' st h rc rs)) {iv : Int32} (hin : ∀ c : Int32, 0 ≤ c → c ≤ 5 → vp_in (iv + c) L) (hc : la_V ac lo ad as b L xs hp I J nm_X11_clear nm_X12_clear []) {rc rs : Nat} (h1 : 1 ≤ rc) (h6 : 6 ≤ rs) (hK : ∀ M z rc' rs' l5 l6 l7, J M → rc ≤ rc' + 1 → rs ≤ rs' + 6 → X 2622 [some (.ref b), some (.ref (lo + 0)), some (.ref (lo + 108)), some (.ref (lo + 202)), some (.int iv), l5, l6, l7] [] (hp M z) rc' rs') {M : mm_M} (z : Nat) (hI : I M) (l5 l6 l7 : Option Value) : X 410 [some (.ref b), some (.ref (lo + 0)), some (.ref (lo + 108)), some (.ref (lo + 202)), some (.int iv), l5, l6, l7] [] (hp M z) rc rs := by
  obtain ⟨M1, M2, C1, C2, hJ⟩ := hc  M z hI
  refine xm_run hX 5 _ _ _ _ _ _ ?_
  conv => whnf
  refine ⟨xw_O (by rw [H.1]; rfl), xw0 0 0 (Nat.le_of_ble_eq_true rfl) (Nat.zero_le _) (Nat.zero_le _) C1 ?_⟩
  conv => whnf
  refine ⟨xw_O (by rw [H.1]; rfl), xw0 0 0 (Nat.le_of_ble_eq_true rfl) (Nat.zero_le _) (Nat.zero_le _) C2 ?_⟩
  exact hK _ _ _ _ _ _ _ hJ (by omega) (by omega)
set_option maxRecDepth 100000 in
set_option maxHeartbeats 4000000 in
theorem lar_4 (H : mm_L ac lo hp) {I J : mm_M → Prop} {X : xm_X} (hX : (∀ pc L' st h rc rs, xm_G ac lo xp_fty xp_dfl xp.2.2.2.2.2.2.1 (xp_sv ad as (b, L, xs)) 1000 [] (xm_M xp ac lo xp_fty xp_dfl (xp_sv ad as (b, L, xs)) 1000) (fun pc => xl_L_law.lookup pc) (some .boolean) (fun r _ => r = .inl (some (.int 1))) X pc L' st h rc rs → X pc L' st h rc rs)) {iv : Int32} (hin : ∀ c : Int32, 0 ≤ c → c ≤ 5 → vp_in (iv + c) L) (hc : ∀ (p0 : Int32) (p1 : Int32), la_I ac lo ad as b L xs hp I J nm_X11_look nm_X12_look [.int p0, .int p1]) {rc rs : Nat} (h1 : 1 ≤ rc) (h6 : 6 ≤ rs) (hK : ∀ M z rc' rs' l5 l6 l7, J M → rc ≤ rc' + 1 → rs ≤ rs' + 6 → X 2622 [some (.ref b), some (.ref (lo + 0)), some (.ref (lo + 108)), some (.ref (lo + 202)), some (.int iv), l5, l6, l7] [] (hp M z) rc' rs') {M : mm_M} (z : Nat) (hI : I M) (l5 l6 l7 : Option Value) : X 421 [some (.ref b), some (.ref (lo + 0)), some (.ref (lo + 108)), some (.ref (lo + 202)), some (.int iv), l5, l6, l7] [] (hp M z) rc rs := by
  obtain ⟨v, M1, M2, C1, C2, hJ⟩ := hc (xs ((iv + 1) : Int32).toNatClampNeg) (xs ((iv + 2) : Int32).toNatClampNeg) M z hI
  refine xm_run hX 25 _ _ _ _ _ _ ?_
  conv => whnf
  refine ⟨0, _, _, rfl, hin 1 (by decide) (by decide), ?_⟩
  conv => whnf
  refine ⟨0, _, _, rfl, hin 2 (by decide) (by decide), ?_⟩
  conv => whnf
  refine ⟨xw_O (by rw [H.1]; rfl), xw1 0 0 (Nat.le_of_ble_eq_true rfl) (Nat.zero_le _) (Nat.zero_le _) C1 ?_⟩
  conv => whnf
  refine ⟨0, _, _, rfl, hin 1 (by decide) (by decide), ?_⟩
  conv => whnf
  refine ⟨0, _, _, rfl, hin 2 (by decide) (by decide), ?_⟩
  conv => whnf
  refine ⟨xw_O (by rw [H.1]; rfl), xw1 0 0 (Nat.le_of_ble_eq_true rfl) (Nat.zero_le _) (Nat.zero_le _) C2 ?_⟩
  conv => whnf
  refine ⟨fun _ => ?_, fun c => absurd rfl c⟩
  refine xm_run hX 0 _ _ _ _ _ _ ?_
  exact hK _ _ _ _ _ _ _ hJ (by omega) (by omega)
set_option maxRecDepth 100000 in
set_option maxHeartbeats 4000000 in
theorem lar_5 (H : mm_L ac lo hp) {I J : mm_M → Prop} {X : xm_X} (hX : (∀ pc L' st h rc rs, xm_G ac lo xp_fty xp_dfl xp.2.2.2.2.2.2.1 (xp_sv ad as (b, L, xs)) 1000 [] (xm_M xp ac lo xp_fty xp_dfl (xp_sv ad as (b, L, xs)) 1000) (fun pc => xl_L_law.lookup pc) (some .boolean) (fun r _ => r = .inl (some (.int 1))) X pc L' st h rc rs → X pc L' st h rc rs)) {iv : Int32} (hin : ∀ c : Int32, 0 ≤ c → c ≤ 5 → vp_in (iv + c) L) (hc : ∀ (p0 : Int32) (p1 : Int32) (p2 : Int32), la_I ac lo ad as b L xs hp I J nm_X11_op nm_X12_op [.int p0, .int p1, .int p2]) {rc rs : Nat} (h1 : 1 ≤ rc) (h6 : 6 ≤ rs) (hK : ∀ M z rc' rs' l5 l6 l7, J M → rc ≤ rc' + 1 → rs ≤ rs' + 6 → X 2622 [some (.ref b), some (.ref (lo + 0)), some (.ref (lo + 108)), some (.ref (lo + 202)), some (.int iv), l5, l6, l7] [] (hp M z) rc' rs') {M : mm_M} (z : Nat) (hI : I M) (l5 l6 l7 : Option Value) : X 458 [some (.ref b), some (.ref (lo + 0)), some (.ref (lo + 108)), some (.ref (lo + 202)), some (.int iv), l5, l6, l7] [] (hp M z) rc rs := by
  obtain ⟨v, M1, M2, C1, C2, hJ⟩ := hc (xs ((iv + 1) : Int32).toNatClampNeg) (xs ((iv + 2) : Int32).toNatClampNeg) (xs ((iv + 3) : Int32).toNatClampNeg) M z hI
  refine xm_run hX 35 _ _ _ _ _ _ ?_
  conv => whnf
  refine ⟨0, _, _, rfl, hin 1 (by decide) (by decide), ?_⟩
  conv => whnf
  refine ⟨0, _, _, rfl, hin 2 (by decide) (by decide), ?_⟩
  conv => whnf
  refine ⟨0, _, _, rfl, hin 3 (by decide) (by decide), ?_⟩
  conv => whnf
  refine ⟨xw_O (by rw [H.1]; rfl), xw1 0 0 (Nat.le_of_ble_eq_true rfl) (Nat.zero_le _) (Nat.zero_le _) C1 ?_⟩
  conv => whnf
  refine ⟨0, _, _, rfl, hin 1 (by decide) (by decide), ?_⟩
  conv => whnf
  refine ⟨0, _, _, rfl, hin 2 (by decide) (by decide), ?_⟩
  conv => whnf
  refine ⟨0, _, _, rfl, hin 3 (by decide) (by decide), ?_⟩
  conv => whnf
  refine ⟨xw_O (by rw [H.1]; rfl), xw1 0 0 (Nat.le_of_ble_eq_true rfl) (Nat.zero_le _) (Nat.zero_le _) C2 ?_⟩
  conv => whnf
  refine ⟨fun _ => ?_, fun c => absurd rfl c⟩
  refine xm_run hX 0 _ _ _ _ _ _ ?_
  exact hK _ _ _ _ _ _ _ hJ (by omega) (by omega)
set_option maxRecDepth 100000 in
set_option maxHeartbeats 4000000 in
theorem lar_6 (H : mm_L ac lo hp) {I J : mm_M → Prop} {X : xm_X} (hX : (∀ pc L' st h rc rs, xm_G ac lo xp_fty xp_dfl xp.2.2.2.2.2.2.1 (xp_sv ad as (b, L, xs)) 1000 [] (xm_M xp ac lo xp_fty xp_dfl (xp_sv ad as (b, L, xs)) 1000) (fun pc => xl_L_law.lookup pc) (some .boolean) (fun r _ => r = .inl (some (.int 1))) X pc L' st h rc rs → X pc L' st h rc rs)) {iv : Int32} (hin : ∀ c : Int32, 0 ≤ c → c ≤ 5 → vp_in (iv + c) L) (hc : ∀ (p0 : Int32) (p1 : Int32), la_I ac lo ad as b L xs hp I J nm_X11_written nm_X12_written [.int p0, .int p1]) {rc rs : Nat} (h1 : 1 ≤ rc) (h6 : 6 ≤ rs) (hK : ∀ M z rc' rs' l5 l6 l7, J M → rc ≤ rc' + 1 → rs ≤ rs' + 6 → X 2622 [some (.ref b), some (.ref (lo + 0)), some (.ref (lo + 108)), some (.ref (lo + 202)), some (.int iv), l5, l6, l7] [] (hp M z) rc' rs') {M : mm_M} (z : Nat) (hI : I M) (l5 l6 l7 : Option Value) : X 507 [some (.ref b), some (.ref (lo + 0)), some (.ref (lo + 108)), some (.ref (lo + 202)), some (.int iv), l5, l6, l7] [] (hp M z) rc rs := by
  obtain ⟨v, M1, M2, C1, C2, hJ⟩ := hc (xs ((iv + 1) : Int32).toNatClampNeg) (xs ((iv + 2) : Int32).toNatClampNeg) M z hI
  refine xm_run hX 25 _ _ _ _ _ _ ?_
  conv => whnf
  refine ⟨0, _, _, rfl, hin 1 (by decide) (by decide), ?_⟩
  conv => whnf
  refine ⟨0, _, _, rfl, hin 2 (by decide) (by decide), ?_⟩
  conv => whnf
  refine ⟨xw_O (by rw [H.1]; rfl), xw1 0 0 (Nat.le_of_ble_eq_true rfl) (Nat.zero_le _) (Nat.zero_le _) C1 ?_⟩
  conv => whnf
  refine ⟨0, _, _, rfl, hin 1 (by decide) (by decide), ?_⟩
  conv => whnf
  refine ⟨0, _, _, rfl, hin 2 (by decide) (by decide), ?_⟩
  conv => whnf
  refine ⟨xw_O (by rw [H.1]; rfl), xw1 0 0 (Nat.le_of_ble_eq_true rfl) (Nat.zero_le _) (Nat.zero_le _) C2 ?_⟩
  conv => whnf
  refine ⟨fun _ => ?_, fun c => absurd rfl c⟩
  refine xm_run hX 0 _ _ _ _ _ _ ?_
  exact hK _ _ _ _ _ _ _ hJ (by omega) (by omega)
set_option maxRecDepth 100000 in
set_option maxHeartbeats 4000000 in
theorem lar_7 (H : mm_L ac lo hp) {I J : mm_M → Prop} {X : xm_X} (hX : (∀ pc L' st h rc rs, xm_G ac lo xp_fty xp_dfl xp.2.2.2.2.2.2.1 (xp_sv ad as (b, L, xs)) 1000 [] (xm_M xp ac lo xp_fty xp_dfl (xp_sv ad as (b, L, xs)) 1000) (fun pc => xl_L_law.lookup pc) (some .boolean) (fun r _ => r = .inl (some (.int 1))) X pc L' st h rc rs → X pc L' st h rc rs)) {iv : Int32} (hin : ∀ c : Int32, 0 ≤ c → c ≤ 5 → vp_in (iv + c) L) (hc : ∀ (p0 : Int32) (p1 : Int32) (p2 : Int32), la_I ac lo ad as b L xs hp I J nm_X11_derive nm_X12_derive [.int p0, .int p1, .int p2]) {rc rs : Nat} (h1 : 1 ≤ rc) (h6 : 6 ≤ rs) (hK : ∀ M z rc' rs' l5 l6 l7, J M → rc ≤ rc' + 1 → rs ≤ rs' + 6 → X 2622 [some (.ref b), some (.ref (lo + 0)), some (.ref (lo + 108)), some (.ref (lo + 202)), some (.int iv), l5, l6, l7] [] (hp M z) rc' rs') {M : mm_M} (z : Nat) (hI : I M) (l5 l6 l7 : Option Value) : X 544 [some (.ref b), some (.ref (lo + 0)), some (.ref (lo + 108)), some (.ref (lo + 202)), some (.int iv), l5, l6, l7] [] (hp M z) rc rs := by
  obtain ⟨v, M1, M2, C1, C2, hJ⟩ := hc (xs ((iv + 1) : Int32).toNatClampNeg) (xs ((iv + 2) : Int32).toNatClampNeg) (xs ((iv + 3) : Int32).toNatClampNeg) M z hI
  refine xm_run hX 35 _ _ _ _ _ _ ?_
  conv => whnf
  refine ⟨0, _, _, rfl, hin 1 (by decide) (by decide), ?_⟩
  conv => whnf
  refine ⟨0, _, _, rfl, hin 2 (by decide) (by decide), ?_⟩
  conv => whnf
  refine ⟨0, _, _, rfl, hin 3 (by decide) (by decide), ?_⟩
  conv => whnf
  refine ⟨xw_O (by rw [H.1]; rfl), xw1 0 0 (Nat.le_of_ble_eq_true rfl) (Nat.zero_le _) (Nat.zero_le _) C1 ?_⟩
  conv => whnf
  refine ⟨0, _, _, rfl, hin 1 (by decide) (by decide), ?_⟩
  conv => whnf
  refine ⟨0, _, _, rfl, hin 2 (by decide) (by decide), ?_⟩
  conv => whnf
  refine ⟨0, _, _, rfl, hin 3 (by decide) (by decide), ?_⟩
  conv => whnf
  refine ⟨xw_O (by rw [H.1]; rfl), xw1 0 0 (Nat.le_of_ble_eq_true rfl) (Nat.zero_le _) (Nat.zero_le _) C2 ?_⟩
  conv => whnf
  refine ⟨fun _ => ?_, fun c => absurd rfl c⟩
  refine xm_run hX 0 _ _ _ _ _ _ ?_
  exact hK _ _ _ _ _ _ _ hJ (by omega) (by omega)
set_option maxRecDepth 100000 in
set_option maxHeartbeats 4000000 in
theorem lar_8 (H : mm_L ac lo hp) {I J : mm_M → Prop} {X : xm_X} (hX : (∀ pc L' st h rc rs, xm_G ac lo xp_fty xp_dfl xp.2.2.2.2.2.2.1 (xp_sv ad as (b, L, xs)) 1000 [] (xm_M xp ac lo xp_fty xp_dfl (xp_sv ad as (b, L, xs)) 1000) (fun pc => xl_L_law.lookup pc) (some .boolean) (fun r _ => r = .inl (some (.int 1))) X pc L' st h rc rs → X pc L' st h rc rs)) {iv : Int32} (hin : ∀ c : Int32, 0 ≤ c → c ≤ 5 → vp_in (iv + c) L) (hc : ∀ (p0 : Int32) (p1 : Int32) (p2 : Int64), la_I ac lo ad as b L xs hp I J nm_X11_begin nm_X12_begin [.int p0, .int p1, .long p2]) {rc rs : Nat} (h1 : 1 ≤ rc) (h6 : 6 ≤ rs) (hK : ∀ M z rc' rs' l5 l6 l7, J M → rc ≤ rc' + 1 → rs ≤ rs' + 6 → X 2622 [some (.ref b), some (.ref (lo + 0)), some (.ref (lo + 108)), some (.ref (lo + 202)), some (.int iv), l5, l6, l7] [] (hp M z) rc' rs') {M : mm_M} (z : Nat) (hI : I M) (l5 l6 l7 : Option Value) : X 593 [some (.ref b), some (.ref (lo + 0)), some (.ref (lo + 108)), some (.ref (lo + 202)), some (.int iv), l5, l6, l7] [] (hp M z) rc rs := by
  obtain ⟨v, M1, M2, C1, C2, hJ⟩ := hc (xs ((iv + 1) : Int32).toNatClampNeg) (xs ((iv + 2) : Int32).toNatClampNeg) ((((xs ((iv + 3) : Int32).toNatClampNeg)).toInt64 <<< ((32 : Int32).toInt64 &&& 63)) ||| (((xs ((iv + 4) : Int32).toNatClampNeg)).toInt64 &&& 4294967295)) M z hI
  refine xm_run hX 59 _ _ _ _ _ _ ?_
  conv => whnf
  refine ⟨0, _, _, rfl, hin 1 (by decide) (by decide), ?_⟩
  conv => whnf
  refine ⟨0, _, _, rfl, hin 2 (by decide) (by decide), ?_⟩
  conv => whnf
  refine ⟨0, _, _, rfl, hin 3 (by decide) (by decide), ?_⟩
  conv => whnf
  refine ⟨0, _, _, rfl, hin 4 (by decide) (by decide), ?_⟩
  conv => whnf
  refine ⟨xw_O (by rw [H.1]; rfl), xw1 0 0 (Nat.le_of_ble_eq_true rfl) (Nat.zero_le _) (Nat.zero_le _) C1 ?_⟩
  conv => whnf
  refine ⟨0, _, _, rfl, hin 1 (by decide) (by decide), ?_⟩
  conv => whnf
  refine ⟨0, _, _, rfl, hin 2 (by decide) (by decide), ?_⟩
  conv => whnf
  refine ⟨0, _, _, rfl, hin 3 (by decide) (by decide), ?_⟩
  conv => whnf
  refine ⟨0, _, _, rfl, hin 4 (by decide) (by decide), ?_⟩
  conv => whnf
  refine ⟨xw_O (by rw [H.1]; rfl), xw1 0 0 (Nat.le_of_ble_eq_true rfl) (Nat.zero_le _) (Nat.zero_le _) C2 ?_⟩
  conv => whnf
  refine ⟨fun _ => ?_, fun c => absurd rfl c⟩
  refine xm_run hX 0 _ _ _ _ _ _ ?_
  exact hK _ _ _ _ _ _ _ hJ (by omega) (by omega)
end LA
