/-! TURN: what is put, and the first program -/
/-- an OP of one WIRE; with one CONTROL -/
def o1 (k w : Nat) : bk_X := (k, w, 0, 0, 0, 0)
def oX (w b : Nat) : bk_X := (0, w, 0, 2 ^ b, 0, 0)
def bs1 (X Z : Nat) : Nat → List bk_X
  | 0 => []
  | i + 1 => bs1 X Z i ++ (if bt X i = 0 then [] else if bt Z i = 0 then [o1 3 i] else [o1 6 i, o1 3 i])
def bs2 (X Z : Nat) : Nat → List bk_X
  | 0 => []
  | i + 1 => bs2 X Z i ++ (if bt X i = 0 then [] else if bt Z i = 0 then [o1 3 i] else [o1 3 i, o1 4 i])
/-- upwards: what is put, and 1 more than the last WIRE -/
def ups (S : Nat) : Nat → List bk_X × Nat
  | 0 => ([], 0)
  | i + 1 => if bt S i = 0 then ups S i else (if (ups S i).2 = 0 then (ups S i).1 else (ups S i).1 ++ [oX i ((ups S i).2 - 1)], i + 1)
def dns (S : Nat) : Nat → Nat → List bk_X
  | 0, _ => []
  | i + 1, q => if bt S i = 0 then dns S i q else oX q i :: dns S i i
def eis (e w : Nat) : List bk_X := match e with
  | 0 => []
  | 1 => [o1 5 w]
  | 2 => [o1 4 w]
  | 3 => [o1 4 w, o1 5 w]
  | 4 => [o1 2 w]
  | 5 => [o1 2 w, o1 5 w]
  | 6 => [o1 6 w]
  | _ => [o1 7 w]
theorem lw_p : ∀ S, S < 256 → S ≠ 0 → lw S < 8 ∧ bt S (lw S) = 1 ∧ ∀ i, i < lw S → bt S i = 0 := by decide +kernel
theorem ups_0 {S : Nat} : ∀ i, (∀ j, j < i → bt S j = 0) → ups S i = ([], 0)
  | 0, _ => rfl
  | i + 1, h => by
    show (if bt S i = 0 then ups S i else _) = _
    rw [if_pos (h i (by omega)), ups_0 i (fun j hj => h j (by omega))]
theorem ups_1 {S w : Nat} (h1 : bt S w = 1) (h0 : ∀ j, j < w → bt S j = 0) : ups S (w + 1) = ([], w + 1) := by
  show (if bt S w = 0 then ups S w else _) = _
  rw [if_neg (by omega), ups_0 w h0]
  rfl
theorem ups_t {S : Nat} (W : Nat) : ∀ m, (∀ j, W ≤ j → j < W + m → bt S j = 0) → ups S (W + m) = ups S W
  | 0, _ => rfl
  | m + 1, h => by
    show (if bt S (W + m) = 0 then ups S (W + m) else _) = _
    rw [if_pos (h _ (by omega) (by omega)), ups_t W m (fun j h1 h2 => h j h1 (by omega))]
theorem ups_l {S w i : Nat} (h1 : bt S w = 1) (hi : w < i) : 0 < (ups S i).2 ∧ (ups S i).2 ≤ i := by
  induction i with
  | zero => omega
  | succ i ih =>
    show 0 < (if bt S i = 0 then ups S i else _).2 ∧ (if bt S i = 0 then ups S i else _).2 ≤ i + 1
    by_cases c : bt S i = 0
    · rw [if_pos c]
      have : w ≠ i := fun e => by rw [e] at h1; omega
      have := ih (by omega)
      omega
    · rw [if_neg c]
      exact ⟨Nat.succ_pos _, Nat.le_refl _⟩
theorem p_o1 (k w : Nat) : bk_p (o1 k w) = k + 16 * w + 128 * 0 + 1024 * 0 := by
  show k + 16 * w + 128 * 0 + 1024 * 0 + 262144 * 0 + 4194304 * 0 = _
  omega
theorem p_oX (w b : Nat) : bk_p (oX w b) = 0 + 16 * w + 128 * 0 + 1024 * 2 ^ b := by
  show 0 + 16 * w + 128 * 0 + 1024 * 2 ^ b + 262144 * 0 + 4194304 * 0 = _
  omega
section TRN
variable {d : Nat} {M : mm_M}
/-- one OP packed and put -/
theorem pk_1 {k w : Nat} (hk : k < 16) (hw : w < 8) : am_M (d + 1) false nm_X0_pack [aI (nI k), aI (nI w), aI 0, aI 0] M (am_q1 (aI (nI (bk_p (o1 k w)))) M) := by
  rw [p_o1]
  exact ct_pack hk hw (by decide) (by decide)
theorem pk_X {w b : Nat} (hw : w < 8) (hb : b < 8) : am_M (d + 1) false nm_X0_pack [aI 0, aI (nI w), aI 0, aI (nI (2 ^ b))] M (am_q1 (aI (nI (bk_p (oX w b)))) M) := by
  rw [p_oX]
  exact ct_pack (a := 0) (by decide) hw (by decide) (Nat.pow_lt_pow_right (n := 8) (by decide) hb)
set_option maxRecDepth 100000 in
theorem ct_putIf {l : List bk_X} {x : bk_X} {v : Int32} {b : Nat} (hv : v = nI (bk_p x)) (hl : l.length < 2 ^ 30) (hb : b < 2) : am_M (d + 2) false nm_X0_putIf [aR 9, aI (nI b), aI v] (dlM M l) (am_q0 (dlM M (if b = 0 then l else l ++ [x]))) := by
  refine ⟨rfl, rfl, rfl, fun X hX => am_run hX 10 _ _ _ _ ?_⟩
  conv => whnf
  by_cases c : b = 0
  · rw [c]
    refine ⟨fun _ => ?_, fun q => absurd rfl q⟩
    conv => whnf
    exact ⟨trivial, rfl, rfl⟩
  · have c1 : b = 1 := by omega
    rw [c1]
    refine ⟨fun q => absurd q (by decide), fun _ => ?_⟩
    conv => whnf
    refine am_c0 (ct_putL hv hl) ?_
    conv => whnf
    exact ⟨trivial, rfl, rfl⟩
variable {X Z S : Nat} {e : Int32}
set_option maxRecDepth 100000 in
theorem tx_b1 {P : am_Q} {Y : am_X} {l0 : List bk_X} (hX : am_K (d + 2) false nm_X0_putTurn P Y) (x8 : X < 256) (z8 : Z < 256) (h0 : l0.length < 1000) (hb : ∀ i, i ≤ 8 → (bs1 X Z i).length ≤ 2 * i) (hK : ∀ l5, Y 69 [some (aR 9), some (aI (nI X)), some (aI (nI Z)), some (aI e), some (aI (nI S)), l5, none] [] (dlM M (l0 ++ bs1 X Z 8))) : ∀ (m i : Nat), i + m = 8 → Y 8 [some (aR 9), some (aI (nI X)), some (aI (nI Z)), some (aI e), some (aI (nI S)), some (aI (nI i)), none] [] (dlM M (l0 ++ bs1 X Z i)) := by
  intro m
  induction m with
  | zero =>
    intro i hi
    have hi : i = 8 := by omega
    subst hi
    refine am_run hX 3 _ _ _ _ ?_
    conv => whnf
    exact ⟨fun _ => hK _, fun c => absurd (by decide) c⟩
  | succ m ih =>
    intro i hi
    have ih := ih (i + 1) (by omega)
    have e1 : bs1 X Z (i + 1) = bs1 X Z i ++ (if bt X i = 0 then [] else if bt Z i = 0 then [o1 3 i] else [o1 6 i, o1 3 i]) := rfl
    rw [e1] at ih
    have ln : (l0 ++ bs1 X Z i).length < 2000 := by
      have := hb i (by omega)
      simp; omega
    have bx := bt_lt X i
    have bz := bt_lt Z i
    have nx : ∀ l, dlM M (l0 ++ (bs1 X Z i ++ (if bt X i = 0 then [] else if bt Z i = 0 then [o1 3 i] else [o1 6 i, o1 3 i]))) = dlM M l → Y 63 [some (aR 9), some (aI (nI X)), some (aI (nI Z)), some (aI e), some (aI (nI S)), some (aI (nI i)), none] [] (dlM M l) := fun l hl => by
      refine am_run hX 2 _ _ _ _ ?_
      conv => whnf
      rw [nI_1, ← hl]
      exact ih
    refine am_run hX 3 _ _ _ _ ?_
    conv => whnf
    refine ⟨fun c => absurd c (nI_ge (b := 8) (by omega) (by decide)), fun _ => ?_⟩
    refine am_run hX 6 _ _ _ _ ?_
    conv => whnf
    rw [nI_bt (by omega) (by omega)]
    by_cases c : bt X i = 0
    · rw [c]
      refine ⟨fun _ => nx _ ?_, fun q => absurd rfl q⟩
      rw [if_pos c, List.append_nil]
    · have c1 : bt X i = 1 := by omega
      rw [c1]
      refine ⟨fun q => absurd q (by decide), fun _ => ?_⟩
      rw [if_neg c] at nx
      have go : ∀ b, b < 2 → dlM M (l0 ++ (bs1 X Z i ++ (if bt Z i = 0 then [o1 3 i] else [o1 6 i, o1 3 i]))) = dlM M ((if b = 0 then l0 ++ bs1 X Z i else l0 ++ bs1 X Z i ++ [o1 6 i]) ++ [o1 3 i]) → Y 39 [some (aR 9), some (aI (nI X)), some (aI (nI Z)), some (aI e), some (aI (nI S)), some (aI (nI i)), none] [aI (nI b), aR 9] (dlM M (l0 ++ bs1 X Z i)) := fun b hb2 hE => by
        refine am_run hX 13 _ _ _ _ ?_
        conv => whnf
        refine am_c1 (pk_1 (k := 6) (by decide) (by omega)) ?_
        conv => whnf
        refine am_c0 (ct_putIf rfl (by omega) hb2) ?_
        conv => whnf
        refine am_c1 (pk_1 (k := 3) (by decide) (by omega)) ?_
        conv => whnf
        refine am_c0 (ct_putL rfl (by split <;> (simp at ln ⊢; omega))) ?_
        conv => whnf
        exact nx _ hE
      refine am_run hX 7 _ _ _ _ ?_
      conv => whnf
      rw [nI_bt (by omega) (by omega)]
      by_cases cz : bt Z i = 0
      · rw [cz]
        refine ⟨fun _ => ?_, fun q => absurd rfl q⟩
        refine am_run hX 1 _ _ _ _ ?_
        conv => whnf
        refine go 0 (by decide) ?_
        rw [if_pos cz, if_pos rfl, List.append_assoc]
      · have cz1 : bt Z i = 1 := by omega
        rw [cz1]
        refine ⟨fun q => absurd q (by decide), fun _ => ?_⟩
        refine am_run hX 2 _ _ _ _ ?_
        conv => whnf
        refine go 1 (by decide) ?_
        rw [if_neg cz, if_neg (by decide), List.append_assoc, List.append_assoc]
        rfl
set_option maxRecDepth 100000 in
theorem tx_b2 {P : am_Q} {Y : am_X} {l0 : List bk_X} {q5 : Int32} (hX : am_K (d + 2) false nm_X0_putTurn P Y) (x8 : X < 256) (z8 : Z < 256) (h0 : l0.length < 1000) (hb : ∀ i, i ≤ 8 → (bs2 X Z i).length ≤ 2 * i) (hK : ∀ l6, Y 240 [some (aR 9), some (aI (nI X)), some (aI (nI Z)), some (aI e), some (aI (nI S)), some (aI q5), l6] [] (dlM M (l0 ++ bs2 X Z 8))) : ∀ (m i : Nat), i + m = 8 → Y 180 [some (aR 9), some (aI (nI X)), some (aI (nI Z)), some (aI e), some (aI (nI S)), some (aI q5), some (aI (nI i))] [] (dlM M (l0 ++ bs2 X Z i)) := by
  intro m
  induction m with
  | zero =>
    intro i hi
    have hi : i = 8 := by omega
    subst hi
    refine am_run hX 3 _ _ _ _ ?_
    conv => whnf
    exact ⟨fun _ => hK _, fun c => absurd (by decide) c⟩
  | succ m ih =>
    intro i hi
    have ih := ih (i + 1) (by omega)
    have e1 : bs2 X Z (i + 1) = bs2 X Z i ++ (if bt X i = 0 then [] else if bt Z i = 0 then [o1 3 i] else [o1 3 i, o1 4 i]) := rfl
    rw [e1] at ih
    have ln : (l0 ++ bs2 X Z i).length < 2000 := by
      have := hb i (by omega)
      simp; omega
    have bx := bt_lt X i
    have bz := bt_lt Z i
    have nx : ∀ l, dlM M (l0 ++ (bs2 X Z i ++ (if bt X i = 0 then [] else if bt Z i = 0 then [o1 3 i] else [o1 3 i, o1 4 i]))) = dlM M l → Y 234 [some (aR 9), some (aI (nI X)), some (aI (nI Z)), some (aI e), some (aI (nI S)), some (aI q5), some (aI (nI i))] [] (dlM M l) := fun l hl => by
      refine am_run hX 2 _ _ _ _ ?_
      conv => whnf
      rw [nI_1, ← hl]
      exact ih
    refine am_run hX 3 _ _ _ _ ?_
    conv => whnf
    refine ⟨fun c => absurd c (nI_ge (b := 8) (by omega) (by decide)), fun _ => ?_⟩
    refine am_run hX 6 _ _ _ _ ?_
    conv => whnf
    rw [nI_bt (by omega) (by omega)]
    by_cases c : bt X i = 0
    · rw [c]
      refine ⟨fun _ => nx _ ?_, fun q => absurd rfl q⟩
      rw [if_pos c, List.append_nil]
    · have c1 : bt X i = 1 := by omega
      rw [c1]
      refine ⟨fun q => absurd q (by decide), fun _ => ?_⟩
      rw [if_neg c] at nx
      have go : ∀ b, b < 2 → dlM M (l0 ++ (bs2 X Z i ++ (if bt Z i = 0 then [o1 3 i] else [o1 3 i, o1 4 i]))) = dlM M (if b = 0 then l0 ++ bs2 X Z i ++ [o1 3 i] else l0 ++ bs2 X Z i ++ [o1 3 i] ++ [o1 4 i]) → Y 223 [some (aR 9), some (aI (nI X)), some (aI (nI Z)), some (aI e), some (aI (nI S)), some (aI q5), some (aI (nI i))] [aI (nI b), aR 9] (dlM M (l0 ++ bs2 X Z i ++ [o1 3 i])) := fun b hb2 hE => by
        refine am_run hX 6 _ _ _ _ ?_
        conv => whnf
        refine am_c1 (pk_1 (k := 4) (by decide) (by omega)) ?_
        conv => whnf
        refine am_c0 (ct_putIf rfl (by simp at ln ⊢; omega) hb2) ?_
        conv => whnf
        exact nx _ hE
      refine am_run hX 14 _ _ _ _ ?_
      conv => whnf
      refine am_c1 (pk_1 (k := 3) (by decide) (by omega)) ?_
      conv => whnf
      refine am_c0 (ct_putL rfl (by omega)) ?_
      conv => whnf
      rw [nI_bt (by omega) (by omega)]
      by_cases cz : bt Z i = 0
      · rw [cz]
        refine ⟨fun _ => ?_, fun q => absurd rfl q⟩
        refine am_run hX 1 _ _ _ _ ?_
        conv => whnf
        refine go 0 (by decide) ?_
        rw [if_pos cz, if_pos rfl, List.append_assoc]
      · have cz1 : bt Z i = 1 := by omega
        rw [cz1]
        refine ⟨fun q => absurd q (by decide), fun _ => ?_⟩
        refine am_run hX 2 _ _ _ _ ?_
        conv => whnf
        refine go 1 (by decide) ?_
        rw [if_neg cz, if_neg (by decide), List.append_assoc, List.append_assoc]
        rfl
theorem bs1_n (X Z : Nat) : ∀ i, (bs1 X Z i).length ≤ 2 * i
  | 0 => Nat.le_refl _
  | i + 1 => by
    have := bs1_n X Z i
    show (bs1 X Z i ++ (if bt X i = 0 then [] else if bt Z i = 0 then [o1 3 i] else [o1 6 i, o1 3 i])).length ≤ _
    rw [List.length_append]
    split
    · simp; omega
    · split <;> (simp; omega)
theorem bs2_n (X Z : Nat) : ∀ i, (bs2 X Z i).length ≤ 2 * i
  | 0 => Nat.le_refl _
  | i + 1 => by
    have := bs2_n X Z i
    show (bs2 X Z i ++ (if bt X i = 0 then [] else if bt Z i = 0 then [o1 3 i] else [o1 3 i, o1 4 i])).length ≤ _
    rw [List.length_append]
    split
    · simp; omega
    · split <;> (simp; omega)
theorem ups_n (S : Nat) : ∀ i, (ups S i).1.length ≤ i
  | 0 => Nat.le_refl _
  | i + 1 => by
    have := ups_n S i
    show (if bt S i = 0 then ups S i else _).1.length ≤ _
    split
    · omega
    · show (if (ups S i).2 = 0 then (ups S i).1 else (ups S i).1 ++ [oX i ((ups S i).2 - 1)]).length ≤ _
      split
      · omega
      · simp; omega
theorem dns_n (S : Nat) : ∀ i q, (dns S i q).length ≤ i
  | 0, _ => Nat.le_refl _
  | i + 1, q => by
    have a := dns_n S i q
    have b := dns_n S i i
    show (if bt S i = 0 then dns S i q else oX q i :: dns S i i).length ≤ _
    split
    · omega
    · simp; omega
set_option maxRecDepth 100000 in
theorem tx_up {P : am_Q} {Y : am_X} {l0 : List bk_X} {w : Nat} (hX : am_K (d + 2) false nm_X0_putTurn P Y) (s8 : S < 256) (h0 : l0.length < 1000) (hw : bt S w = 1) (hK : ∀ l6, Y 124 [some (aR 9), some (aI (nI X)), some (aI (nI Z)), some (aI e), some (aI (nI S)), some (aI (nI ((ups S 8).2 - 1))), l6] [] (dlM M (l0 ++ (ups S 8).1))) : ∀ (m i : Nat), i + m = 8 → w < i → Y 82 [some (aR 9), some (aI (nI X)), some (aI (nI Z)), some (aI e), some (aI (nI S)), some (aI (nI ((ups S i).2 - 1))), some (aI (nI i))] [] (dlM M (l0 ++ (ups S i).1)) := by
  intro m
  induction m with
  | zero =>
    intro i hi wi
    have hi : i = 8 := by omega
    subst hi
    refine am_run hX 3 _ _ _ _ ?_
    conv => whnf
    exact ⟨fun _ => hK _, fun c => absurd (by decide) c⟩
  | succ m ih =>
    intro i hi wi
    have ih := ih (i + 1) (by omega) (by omega)
    have ⟨u1, u2⟩ := ups_l hw wi
    have un := ups_n S i
    have bs := bt_lt S i
    have e1 : ups S (i + 1) = if bt S i = 0 then ups S i else (if (ups S i).2 = 0 then (ups S i).1 else (ups S i).1 ++ [oX i ((ups S i).2 - 1)], i + 1) := rfl
    refine am_run hX 3 _ _ _ _ ?_
    conv => whnf
    refine ⟨fun c => absurd c (nI_ge (b := 8) (by omega) (by decide)), fun _ => ?_⟩
    refine am_run hX 6 _ _ _ _ ?_
    conv => whnf
    rw [nI_bt (by omega) (by omega)]
    by_cases c : bt S i = 0
    · rw [e1, if_pos c] at ih
      rw [c]
      refine ⟨fun _ => ?_, fun q => absurd rfl q⟩
      refine am_run hX 2 _ _ _ _ ?_
      conv => whnf
      rw [nI_1]
      exact ih
    · have c1 : bt S i = 1 := by omega
      rw [e1, if_neg c, if_neg (by omega : ¬ (ups S i).2 = 0)] at ih
      rw [c1]
      refine ⟨fun q => absurd q (by decide), fun _ => ?_⟩
      refine am_run hX 13 _ _ _ _ ?_
      conv => whnf
      rw [sh2 _ (by omega)]
      refine am_c1 (pk_X (by omega) (by omega)) ?_
      conv => whnf
      refine am_c0 (ct_putL (x := oX i ((ups S i).2 - 1)) rfl (by simp; omega)) ?_
      conv => whnf
      rw [nI_1, List.append_assoc]
      exact ih
set_option maxRecDepth 100000 in
theorem tx_dn {P : am_Q} {Y : am_X} (hX : am_K (d + 2) false nm_X0_putTurn P Y) (s8 : S < 256) : ∀ (i q : Nat) (l0 : List bk_X) (LL : List bk_X), i ≤ 8 → q < 8 → l0.length + i < 1100 → LL = l0 ++ dns S i q → (∀ q5 l6, Y 177 [some (aR 9), some (aI (nI X)), some (aI (nI Z)), some (aI e), some (aI (nI S)), some (aI q5), l6] [] (dlM M LL)) → Y 137 [some (aR 9), some (aI (nI X)), some (aI (nI Z)), some (aI e), some (aI (nI S)), some (aI (nI q)), some (aI (nI i - 1))] [] (dlM M l0) := by
  intro i
  induction i with
  | zero =>
    intro q l0 LL hi hq hl hE hK
    rw [show l0 ++ dns S 0 q = l0 from List.append_nil _] at hE
    subst hE
    refine am_run hX 2 _ _ _ _ ?_
    conv => whnf
    exact ⟨fun _ => hK _ _, fun c => absurd (by decide) c⟩
  | succ i ih =>
    intro q l0 LL hi hq hl hE hK
    have bs := bt_lt S i
    have e1 : dns S (i + 1) q = if bt S i = 0 then dns S i q else oX q i :: dns S i i := rfl
    rw [nI_s1 (i + 1) (by omega), show i + 1 - 1 = i from rfl]
    refine am_run hX 2 _ _ _ _ ?_
    conv => whnf
    refine ⟨fun c => absurd c (nI_pos (by omega)), fun _ => ?_⟩
    refine am_run hX 6 _ _ _ _ ?_
    conv => whnf
    rw [nI_bt (by omega) (by omega)]
    by_cases c : bt S i = 0
    · rw [e1, if_pos c] at hE
      rw [c]
      refine ⟨fun _ => ?_, fun q => absurd rfl q⟩
      refine am_run hX 2 _ _ _ _ ?_
      conv => whnf
      rw [← nI_s1']
      exact ih q l0 LL (by omega) hq (by omega) hE hK
    · have c1 : bt S i = 1 := by omega
      rw [e1, if_neg c] at hE
      rw [c1]
      refine ⟨fun q => absurd q (by decide), fun _ => ?_⟩
      refine am_run hX 13 _ _ _ _ ?_
      conv => whnf
      rw [sh2 _ (by omega)]
      refine am_c1 (pk_X hq (by omega)) ?_
      conv => whnf
      refine am_c0 (ct_putL (x := oX q i) rfl (by omega)) ?_
      conv => whnf
      rw [← nI_s1']
      exact ih i (l0 ++ [oX q i]) LL (by omega) (by omega) (by simp; omega) (by rw [hE, List.append_assoc]; rfl) hK
end TRN
