/-! the law: an arm a call, over what is said of the two methods -/
section LA
variable {ac : Nat → ClassId} {lo : Nat} {ad as : Nat → Nat} {b L : Nat} {xs : Nat → Int32} {hp : mm_M → Nat → xm_H}
set_option maxRecDepth 100000 in
set_option maxHeartbeats 4000000 in
theorem lar_18 (H : mm_L ac lo hp) {I J : mm_M → Prop} {X : xm_X} (hX : (∀ pc L' st h rc rs, xm_G ac lo xp_fty xp_dfl xp.2.2.2.2.2.2.1 (xp_sv ad as (b, L, xs)) 1000 [] (xm_M xp ac lo xp_fty xp_dfl (xp_sv ad as (b, L, xs)) 1000) (fun pc => xl_L_law.lookup pc) (some .boolean) (fun r _ => r = .inl (some (.int 1))) X pc L' st h rc rs → X pc L' st h rc rs)) {iv : Int32} (hin : ∀ c : Int32, 0 ≤ c → c ≤ 5 → vp_in (iv + c) L) (hc : ∀ (p0 : Int32) (p1 : Int32) (p2 : Int32), la_I ac lo ad as b L xs hp I J nm_X11_gate nm_X12_gate [.int p0, .int p1, .int p2]) {rc rs : Nat} (h1 : 1 ≤ rc) (h6 : 6 ≤ rs) (hK : ∀ M z rc' rs' l5 l6 l7, J M → rc ≤ rc' + 1 → rs ≤ rs' + 6 → X 2622 [some (.ref b), some (.ref (lo + 0)), some (.ref (lo + 108)), some (.ref (lo + 202)), some (.int iv), l5, l6, l7] [] (hp M z) rc' rs') {M : mm_M} (z : Nat) (hI : I M) (l5 l6 l7 : Option Value) : X 1158 [some (.ref b), some (.ref (lo + 0)), some (.ref (lo + 108)), some (.ref (lo + 202)), some (.int iv), l5, l6, l7] [] (hp M z) rc rs := by
  obtain ⟨v, M1, M2, C1, C2, hJ⟩ := hc (xs ((iv + 1) : Int32).toNatClampNeg) (xs ((iv + 2) : Int32).toNatClampNeg) (xs ((iv + 3) : Int32).toNatClampNeg) M z hI
  refine xm_run hX 35 _ _ _ _ _ _ ?_
  conv => whnf
  refine ⟨0, _, _, rfl, hin 1 (by decide) (by decide), ?_⟩
  conv => whnf
  refine ⟨0, _, _, rfl, hin 2 (by decide) (by decide), ?_⟩
  conv => whnf
  refine ⟨0, _, _, rfl, hin 3 (by decide) (by decide), ?_⟩
  conv => whnf
  refine ⟨xw_O (by rw [H.1]; rfl), xw1 0 0 (Nat.le_of_ble_eq_true rfl) (Nat.zero_le _) (Nat.zero_le _) C1 ?_⟩
  conv => whnf
  refine ⟨0, _, _, rfl, hin 1 (by decide) (by decide), ?_⟩
  conv => whnf
  refine ⟨0, _, _, rfl, hin 2 (by decide) (by decide), ?_⟩
  conv => whnf
  refine ⟨0, _, _, rfl, hin 3 (by decide) (by decide), ?_⟩
  conv => whnf
  refine ⟨xw_O (by rw [H.1]; rfl), xw1 0 0 (Nat.le_of_ble_eq_true rfl) (Nat.zero_le _) (Nat.zero_le _) C2 ?_⟩
  conv => whnf
  refine ⟨fun _ => ?_, fun c => absurd rfl c⟩
  refine xm_run hX 0 _ _ _ _ _ _ ?_
  exact hK _ _ _ _ _ _ _ hJ (by omega) (by omega)
set_option maxRecDepth 100000 in
set_option maxHeartbeats 4000000 in
theorem lar_19 (H : mm_L ac lo hp) {I J : mm_M → Prop} {X : xm_X} (hX : (∀ pc L' st h rc rs, xm_G ac lo xp_fty xp_dfl xp.2.2.2.2.2.2.1 (xp_sv ad as (b, L, xs)) 1000 [] (xm_M xp ac lo xp_fty xp_dfl (xp_sv ad as (b, L, xs)) 1000) (fun pc => xl_L_law.lookup pc) (some .boolean) (fun r _ => r = .inl (some (.int 1))) X pc L' st h rc rs → X pc L' st h rc rs)) {iv : Int32} (hin : ∀ c : Int32, 0 ≤ c → c ≤ 5 → vp_in (iv + c) L) (hc : ∀ (p0 : Int32) (p1 : Int32), la_I ac lo ad as b L xs hp I J nm_X11_measure nm_X12_measure [.int p0, .int p1]) {rc rs : Nat} (h1 : 1 ≤ rc) (h6 : 6 ≤ rs) (hK : ∀ M z rc' rs' l5 l6 l7, J M → rc ≤ rc' + 1 → rs ≤ rs' + 6 → X 2622 [some (.ref b), some (.ref (lo + 0)), some (.ref (lo + 108)), some (.ref (lo + 202)), some (.int iv), l5, l6, l7] [] (hp M z) rc' rs') {M : mm_M} (z : Nat) (hI : I M) (l5 l6 l7 : Option Value) : X 1207 [some (.ref b), some (.ref (lo + 0)), some (.ref (lo + 108)), some (.ref (lo + 202)), some (.int iv), l5, l6, l7] [] (hp M z) rc rs := by
  obtain ⟨v, M1, M2, C1, C2, hJ⟩ := hc (xs ((iv + 1) : Int32).toNatClampNeg) (xs ((iv + 2) : Int32).toNatClampNeg) M z hI
  refine xm_run hX 25 _ _ _ _ _ _ ?_
  conv => whnf
  refine ⟨0, _, _, rfl, hin 1 (by decide) (by decide), ?_⟩
  conv => whnf
  refine ⟨0, _, _, rfl, hin 2 (by decide) (by decide), ?_⟩
  conv => whnf
  refine ⟨xw_O (by rw [H.1]; rfl), xw1 0 0 (Nat.le_of_ble_eq_true rfl) (Nat.zero_le _) (Nat.zero_le _) C1 ?_⟩
  conv => whnf
  refine ⟨0, _, _, rfl, hin 1 (by decide) (by decide), ?_⟩
  conv => whnf
  refine ⟨0, _, _, rfl, hin 2 (by decide) (by decide), ?_⟩
  conv => whnf
  refine ⟨xw_O (by rw [H.1]; rfl), xw1 0 0 (Nat.le_of_ble_eq_true rfl) (Nat.zero_le _) (Nat.zero_le _) C2 ?_⟩
  conv => whnf
  refine ⟨fun _ => ?_, fun c => absurd rfl c⟩
  refine xm_run hX 0 _ _ _ _ _ _ ?_
  exact hK _ _ _ _ _ _ _ hJ (by omega) (by omega)
set_option maxRecDepth 100000 in
set_option maxHeartbeats 4000000 in
theorem lar_20 (H : mm_L ac lo hp) {I J : mm_M → Prop} {X : xm_X} (hX : (∀ pc L' st h rc rs, xm_G ac lo xp_fty xp_dfl xp.2.2.2.2.2.2.1 (xp_sv ad as (b, L, xs)) 1000 [] (xm_M xp ac lo xp_fty xp_dfl (xp_sv ad as (b, L, xs)) 1000) (fun pc => xl_L_law.lookup pc) (some .boolean) (fun r _ => r = .inl (some (.int 1))) X pc L' st h rc rs → X pc L' st h rc rs)) {iv : Int32} (hin : ∀ c : Int32, 0 ≤ c → c ≤ 5 → vp_in (iv + c) L) (hc : ∀ (p0 : Int32) (p1 : Int32), la_I ac lo ad as b L xs hp I J nm_X11_row nm_X12_row [.int p0, .int p1]) {rc rs : Nat} (h1 : 1 ≤ rc) (h6 : 6 ≤ rs) (hK : ∀ M z rc' rs' l5 l6 l7, J M → rc ≤ rc' + 1 → rs ≤ rs' + 6 → X 2622 [some (.ref b), some (.ref (lo + 0)), some (.ref (lo + 108)), some (.ref (lo + 202)), some (.int iv), l5, l6, l7] [] (hp M z) rc' rs') {M : mm_M} (z : Nat) (hI : I M) (l5 l6 l7 : Option Value) : X 1244 [some (.ref b), some (.ref (lo + 0)), some (.ref (lo + 108)), some (.ref (lo + 202)), some (.int iv), l5, l6, l7] [] (hp M z) rc rs := by
  obtain ⟨v, M1, M2, C1, C2, hJ⟩ := hc (xs ((iv + 1) : Int32).toNatClampNeg) (xs ((iv + 2) : Int32).toNatClampNeg) M z hI
  refine xm_run hX 25 _ _ _ _ _ _ ?_
  conv => whnf
  refine ⟨0, _, _, rfl, hin 1 (by decide) (by decide), ?_⟩
  conv => whnf
  refine ⟨0, _, _, rfl, hin 2 (by decide) (by decide), ?_⟩
  conv => whnf
  refine ⟨xw_O (by rw [H.1]; rfl), xw1 0 0 (Nat.le_of_ble_eq_true rfl) (Nat.zero_le _) (Nat.zero_le _) C1 ?_⟩
  conv => whnf
  refine ⟨0, _, _, rfl, hin 1 (by decide) (by decide), ?_⟩
  conv => whnf
  refine ⟨0, _, _, rfl, hin 2 (by decide) (by decide), ?_⟩
  conv => whnf
  refine ⟨xw_O (by rw [H.1]; rfl), xw1 0 0 (Nat.le_of_ble_eq_true rfl) (Nat.zero_le _) (Nat.zero_le _) C2 ?_⟩
  conv => whnf
  refine ⟨fun _ => ?_, fun c => absurd rfl c⟩
  refine xm_run hX 0 _ _ _ _ _ _ ?_
  exact hK _ _ _ _ _ _ _ hJ (by omega) (by omega)
set_option maxRecDepth 100000 in
set_option maxHeartbeats 4000000 in
theorem lar_21 (H : mm_L ac lo hp) {I J : mm_M → Prop} {X : xm_X} (hX : (∀ pc L' st h rc rs, xm_G ac lo xp_fty xp_dfl xp.2.2.2.2.2.2.1 (xp_sv ad as (b, L, xs)) 1000 [] (xm_M xp ac lo xp_fty xp_dfl (xp_sv ad as (b, L, xs)) 1000) (fun pc => xl_L_law.lookup pc) (some .boolean) (fun r _ => r = .inl (some (.int 1))) X pc L' st h rc rs → X pc L' st h rc rs)) {iv : Int32} (hin : ∀ c : Int32, 0 ≤ c → c ≤ 5 → vp_in (iv + c) L) (hc : ∀ (p0 : Int32) (p1 : Int32), la_I ac lo ad as b L xs hp I J nm_X11_equal nm_X12_equal [.int p0, .int p1]) {rc rs : Nat} (h1 : 1 ≤ rc) (h6 : 6 ≤ rs) (hK : ∀ M z rc' rs' l5 l6 l7, J M → rc ≤ rc' + 1 → rs ≤ rs' + 6 → X 2622 [some (.ref b), some (.ref (lo + 0)), some (.ref (lo + 108)), some (.ref (lo + 202)), some (.int iv), l5, l6, l7] [] (hp M z) rc' rs') {M : mm_M} (z : Nat) (hI : I M) (l5 l6 l7 : Option Value) : X 1281 [some (.ref b), some (.ref (lo + 0)), some (.ref (lo + 108)), some (.ref (lo + 202)), some (.int iv), l5, l6, l7] [] (hp M z) rc rs := by
  obtain ⟨v, M1, M2, C1, C2, hJ⟩ := hc (xs ((iv + 1) : Int32).toNatClampNeg) (xs ((iv + 2) : Int32).toNatClampNeg) M z hI
  refine xm_run hX 25 _ _ _ _ _ _ ?_
  conv => whnf
  refine ⟨0, _, _, rfl, hin 1 (by decide) (by decide), ?_⟩
  conv => whnf
  refine ⟨0, _, _, rfl, hin 2 (by decide) (by decide), ?_⟩
  conv => whnf
  refine ⟨xw_O (by rw [H.1]; rfl), xw1 0 0 (Nat.le_of_ble_eq_true rfl) (Nat.zero_le _) (Nat.zero_le _) C1 ?_⟩
  conv => whnf
  refine ⟨0, _, _, rfl, hin 1 (by decide) (by decide), ?_⟩
  conv => whnf
  refine ⟨0, _, _, rfl, hin 2 (by decide) (by decide), ?_⟩
  conv => whnf
  refine ⟨xw_O (by rw [H.1]; rfl), xw1 0 0 (Nat.le_of_ble_eq_true rfl) (Nat.zero_le _) (Nat.zero_le _) C2 ?_⟩
  conv => whnf
  refine ⟨fun _ => ?_, fun c => absurd rfl c⟩
  refine xm_run hX 0 _ _ _ _ _ _ ?_
  exact hK _ _ _ _ _ _ _ hJ (by omega) (by omega)
set_option maxRecDepth 100000 in
set_option maxHeartbeats 4000000 in
theorem lar_22 (H : mm_L ac lo hp) {I J : mm_M → Prop} {X : xm_X} (hX : (∀ pc L' st h rc rs, xm_G ac lo xp_fty xp_dfl xp.2.2.2.2.2.2.1 (xp_sv ad as (b, L, xs)) 1000 [] (xm_M xp ac lo xp_fty xp_dfl (xp_sv ad as (b, L, xs)) 1000) (fun pc => xl_L_law.lookup pc) (some .boolean) (fun r _ => r = .inl (some (.int 1))) X pc L' st h rc rs → X pc L' st h rc rs)) {iv : Int32} (hin : ∀ c : Int32, 0 ≤ c → c ≤ 5 → vp_in (iv + c) L) (hc : la_I ac lo ad as b L xs hp I J nm_X11_same nm_X12_same []) {rc rs : Nat} (h1 : 1 ≤ rc) (h6 : 6 ≤ rs) (hK : ∀ M z rc' rs' l5 l6 l7, J M → rc ≤ rc' + 1 → rs ≤ rs' + 6 → X 2622 [some (.ref b), some (.ref (lo + 0)), some (.ref (lo + 108)), some (.ref (lo + 202)), some (.int iv), l5, l6, l7] [] (hp M z) rc' rs') {M : mm_M} (z : Nat) (hI : I M) (l5 l6 l7 : Option Value) : X 1318 [some (.ref b), some (.ref (lo + 0)), some (.ref (lo + 108)), some (.ref (lo + 202)), some (.int iv), l5, l6, l7] [] (hp M z) rc rs := by
  obtain ⟨v, M1, M2, C1, C2, hJ⟩ := hc  M z hI
  refine xm_run hX 5 _ _ _ _ _ _ ?_
  conv => whnf
  refine ⟨xw_O (by rw [H.1]; rfl), xw1 0 0 (Nat.le_of_ble_eq_true rfl) (Nat.zero_le _) (Nat.zero_le _) C1 ?_⟩
  conv => whnf
  refine ⟨xw_O (by rw [H.1]; rfl), xw1 0 0 (Nat.le_of_ble_eq_true rfl) (Nat.zero_le _) (Nat.zero_le _) C2 ?_⟩
  conv => whnf
  refine ⟨fun _ => ?_, fun c => absurd rfl c⟩
  refine xm_run hX 0 _ _ _ _ _ _ ?_
  exact hK _ _ _ _ _ _ _ hJ (by omega) (by omega)
set_option maxRecDepth 100000 in
set_option maxHeartbeats 4000000 in
theorem lar_23 (H : mm_L ac lo hp) {I J : mm_M → Prop} {X : xm_X} (hX : (∀ pc L' st h rc rs, xm_G ac lo xp_fty xp_dfl xp.2.2.2.2.2.2.1 (xp_sv ad as (b, L, xs)) 1000 [] (xm_M xp ac lo xp_fty xp_dfl (xp_sv ad as (b, L, xs)) 1000) (fun pc => xl_L_law.lookup pc) (some .boolean) (fun r _ => r = .inl (some (.int 1))) X pc L' st h rc rs → X pc L' st h rc rs)) {iv : Int32} (hin : ∀ c : Int32, 0 ≤ c → c ≤ 5 → vp_in (iv + c) L) (hc : ∀ (p0 : Int32), la_I ac lo ad as b L xs hp I J nm_X11_diagram nm_X12_diagram [.int p0]) {rc rs : Nat} (h1 : 1 ≤ rc) (h6 : 6 ≤ rs) (hK : ∀ M z rc' rs' l5 l6 l7, J M → rc ≤ rc' + 1 → rs ≤ rs' + 6 → X 2622 [some (.ref b), some (.ref (lo + 0)), some (.ref (lo + 108)), some (.ref (lo + 202)), some (.int iv), l5, l6, l7] [] (hp M z) rc' rs') {M : mm_M} (z : Nat) (hI : I M) (l5 l6 l7 : Option Value) : X 1331 [some (.ref b), some (.ref (lo + 0)), some (.ref (lo + 108)), some (.ref (lo + 202)), some (.int iv), l5, l6, l7] [] (hp M z) rc rs := by
  obtain ⟨v, M1, M2, C1, C2, hJ⟩ := hc (xs ((iv + 1) : Int32).toNatClampNeg) M z hI
  refine xm_run hX 15 _ _ _ _ _ _ ?_
  conv => whnf
  refine ⟨0, _, _, rfl, hin 1 (by decide) (by decide), ?_⟩
  conv => whnf
  refine ⟨xw_O (by rw [H.1]; rfl), xw1 0 0 (Nat.le_of_ble_eq_true rfl) (Nat.zero_le _) (Nat.zero_le _) C1 ?_⟩
  conv => whnf
  refine ⟨0, _, _, rfl, hin 1 (by decide) (by decide), ?_⟩
  conv => whnf
  refine ⟨xw_O (by rw [H.1]; rfl), xw1 0 0 (Nat.le_of_ble_eq_true rfl) (Nat.zero_le _) (Nat.zero_le _) C2 ?_⟩
  conv => whnf
  refine ⟨fun _ => ?_, fun c => absurd rfl c⟩
  refine xm_run hX 0 _ _ _ _ _ _ ?_
  exact hK _ _ _ _ _ _ _ hJ (by omega) (by omega)
set_option maxRecDepth 100000 in
set_option maxHeartbeats 4000000 in
theorem lar_24 (H : mm_L ac lo hp) {I J : mm_M → Prop} {X : xm_X} (hX : (∀ pc L' st h rc rs, xm_G ac lo xp_fty xp_dfl xp.2.2.2.2.2.2.1 (xp_sv ad as (b, L, xs)) 1000 [] (xm_M xp ac lo xp_fty xp_dfl (xp_sv ad as (b, L, xs)) 1000) (fun pc => xl_L_law.lookup pc) (some .boolean) (fun r _ => r = .inl (some (.int 1))) X pc L' st h rc rs → X pc L' st h rc rs)) {iv : Int32} (hin : ∀ c : Int32, 0 ≤ c → c ≤ 5 → vp_in (iv + c) L) (hc : ∀ (p0 : Int32) (p1 : Int32), la_I ac lo ad as b L xs hp I J nm_X11_spider nm_X12_spider [.int p0, .int p1]) {rc rs : Nat} (h1 : 1 ≤ rc) (h6 : 6 ≤ rs) (hK : ∀ M z rc' rs' l5 l6 l7, J M → rc ≤ rc' + 1 → rs ≤ rs' + 6 → X 2622 [some (.ref b), some (.ref (lo + 0)), some (.ref (lo + 108)), some (.ref (lo + 202)), some (.int iv), l5, l6, l7] [] (hp M z) rc' rs') {M : mm_M} (z : Nat) (hI : I M) (l5 l6 l7 : Option Value) : X 1356 [some (.ref b), some (.ref (lo + 0)), some (.ref (lo + 108)), some (.ref (lo + 202)), some (.int iv), l5, l6, l7] [] (hp M z) rc rs := by
  obtain ⟨v, M1, M2, C1, C2, hJ⟩ := hc (xs ((iv + 1) : Int32).toNatClampNeg) (xs ((iv + 2) : Int32).toNatClampNeg) M z hI
  refine xm_run hX 25 _ _ _ _ _ _ ?_
  conv => whnf
  refine ⟨0, _, _, rfl, hin 1 (by decide) (by decide), ?_⟩
  conv => whnf
  refine ⟨0, _, _, rfl, hin 2 (by decide) (by decide), ?_⟩
  conv => whnf
  refine ⟨xw_O (by rw [H.1]; rfl), xw1 0 0 (Nat.le_of_ble_eq_true rfl) (Nat.zero_le _) (Nat.zero_le _) C1 ?_⟩
  conv => whnf
  refine ⟨0, _, _, rfl, hin 1 (by decide) (by decide), ?_⟩
  conv => whnf
  refine ⟨0, _, _, rfl, hin 2 (by decide) (by decide), ?_⟩
  conv => whnf
  refine ⟨xw_O (by rw [H.1]; rfl), xw1 0 0 (Nat.le_of_ble_eq_true rfl) (Nat.zero_le _) (Nat.zero_le _) C2 ?_⟩
  conv => whnf
  refine ⟨fun _ => ?_, fun c => absurd rfl c⟩
  refine xm_run hX 0 _ _ _ _ _ _ ?_
  exact hK _ _ _ _ _ _ _ hJ (by omega) (by omega)
set_option maxRecDepth 100000 in
set_option maxHeartbeats 4000000 in
theorem lar_25 (H : mm_L ac lo hp) {I J : mm_M → Prop} {X : xm_X} (hX : (∀ pc L' st h rc rs, xm_G ac lo xp_fty xp_dfl xp.2.2.2.2.2.2.1 (xp_sv ad as (b, L, xs)) 1000 [] (xm_M xp ac lo xp_fty xp_dfl (xp_sv ad as (b, L, xs)) 1000) (fun pc => xl_L_law.lookup pc) (some .boolean) (fun r _ => r = .inl (some (.int 1))) X pc L' st h rc rs → X pc L' st h rc rs)) {iv : Int32} (hin : ∀ c : Int32, 0 ≤ c → c ≤ 5 → vp_in (iv + c) L) (hc : ∀ (p0 : Int32) (p1 : Int32) (p2 : Int32), la_I ac lo ad as b L xs hp I J nm_X11_rewrite nm_X12_rewrite [.int p0, .int p1, .int p2]) {rc rs : Nat} (h1 : 1 ≤ rc) (h6 : 6 ≤ rs) (hK : ∀ M z rc' rs' l5 l6 l7, J M → rc ≤ rc' + 1 → rs ≤ rs' + 6 → X 2622 [some (.ref b), some (.ref (lo + 0)), some (.ref (lo + 108)), some (.ref (lo + 202)), some (.int iv), l5, l6, l7] [] (hp M z) rc' rs') {M : mm_M} (z : Nat) (hI : I M) (l5 l6 l7 : Option Value) : X 1393 [some (.ref b), some (.ref (lo + 0)), some (.ref (lo + 108)), some (.ref (lo + 202)), some (.int iv), l5, l6, l7] [] (hp M z) rc rs := by
  obtain ⟨v, M1, M2, C1, C2, hJ⟩ := hc (xs ((iv + 1) : Int32).toNatClampNeg) (xs ((iv + 2) : Int32).toNatClampNeg) (xs ((iv + 3) : Int32).toNatClampNeg) M z hI
  refine xm_run hX 35 _ _ _ _ _ _ ?_
  conv => whnf
  refine ⟨0, _, _, rfl, hin 1 (by decide) (by decide), ?_⟩
  conv => whnf
  refine ⟨0, _, _, rfl, hin 2 (by decide) (by decide), ?_⟩
  conv => whnf
  refine ⟨0, _, _, rfl, hin 3 (by decide) (by decide), ?_⟩
  conv => whnf
  refine ⟨xw_O (by rw [H.1]; rfl), xw1 0 0 (Nat.le_of_ble_eq_true rfl) (Nat.zero_le _) (Nat.zero_le _) C1 ?_⟩
  conv => whnf
  refine ⟨0, _, _, rfl, hin 1 (by decide) (by decide), ?_⟩
  conv => whnf
  refine ⟨0, _, _, rfl, hin 2 (by decide) (by decide), ?_⟩
  conv => whnf
  refine ⟨0, _, _, rfl, hin 3 (by decide) (by decide), ?_⟩
  conv => whnf
  refine ⟨xw_O (by rw [H.1]; rfl), xw1 0 0 (Nat.le_of_ble_eq_true rfl) (Nat.zero_le _) (Nat.zero_le _) C2 ?_⟩
  conv => whnf
  refine ⟨fun _ => ?_, fun c => absurd rfl c⟩
  refine xm_run hX 0 _ _ _ _ _ _ ?_
  exact hK _ _ _ _ _ _ _ hJ (by omega) (by omega)
set_option maxRecDepth 100000 in
set_option maxHeartbeats 4000000 in
theorem lar_26 (H : mm_L ac lo hp) {I J : mm_M → Prop} {X : xm_X} (hX : (∀ pc L' st h rc rs, xm_G ac lo xp_fty xp_dfl xp.2.2.2.2.2.2.1 (xp_sv ad as (b, L, xs)) 1000 [] (xm_M xp ac lo xp_fty xp_dfl (xp_sv ad as (b, L, xs)) 1000) (fun pc => xl_L_law.lookup pc) (some .boolean) (fun r _ => r = .inl (some (.int 1))) X pc L' st h rc rs → X pc L' st h rc rs)) {iv : Int32} (hin : ∀ c : Int32, 0 ≤ c → c ≤ 5 → vp_in (iv + c) L) (hc : la_I ac lo ad as b L xs hp I J nm_X11_reduce nm_X12_reduce []) {rc rs : Nat} (h1 : 1 ≤ rc) (h6 : 6 ≤ rs) (hK : ∀ M z rc' rs' l5 l6 l7, J M → rc ≤ rc' + 1 → rs ≤ rs' + 6 → X 2622 [some (.ref b), some (.ref (lo + 0)), some (.ref (lo + 108)), some (.ref (lo + 202)), some (.int iv), l5, l6, l7] [] (hp M z) rc' rs') {M : mm_M} (z : Nat) (hI : I M) (l5 l6 l7 : Option Value) : X 1442 [some (.ref b), some (.ref (lo + 0)), some (.ref (lo + 108)), some (.ref (lo + 202)), some (.int iv), l5, l6, l7] [] (hp M z) rc rs := by
  obtain ⟨v, M1, M2, C1, C2, hJ⟩ := hc  M z hI
  refine xm_run hX 5 _ _ _ _ _ _ ?_
  conv => whnf
  refine ⟨xw_O (by rw [H.1]; rfl), xw1 0 0 (Nat.le_of_ble_eq_true rfl) (Nat.zero_le _) (Nat.zero_le _) C1 ?_⟩
  conv => whnf
  refine ⟨xw_O (by rw [H.1]; rfl), xw1 0 0 (Nat.le_of_ble_eq_true rfl) (Nat.zero_le _) (Nat.zero_le _) C2 ?_⟩
  conv => whnf
  refine ⟨fun _ => ?_, fun c => absurd rfl c⟩
  refine xm_run hX 0 _ _ _ _ _ _ ?_
  exact hK _ _ _ _ _ _ _ hJ (by omega) (by omega)
end LA
