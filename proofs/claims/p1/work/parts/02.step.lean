/-! THE ENGINE: what one instruction asks, as a formula -/
def xm_i (st : List Value) (k : Int32 → List Value → Prop) : Prop := match st with
  | .int a :: r => k a r
  | _ => False
def xm_ii (st : List Value) (k : Int32 → Int32 → List Value → Prop) : Prop := match st with
  | .int b :: .int a :: r => k a b r
  | _ => False
def xm_l (st : List Value) (k : Int64 → List Value → Prop) : Prop := match st with
  | .long a :: r => k a r
  | _ => False
def xm_ll (st : List Value) (k : Int64 → Int64 → List Value → Prop) : Prop := match st with
  | .long b :: .long a :: r => k a b r
  | _ => False
/-- a long, and an int above it (a shift) -/
def xm_li (st : List Value) (k : Int64 → Int32 → List Value → Prop) : Prop := match st with
  | .int b :: .long a :: r => k a b r
  | _ => False
def xm_a (st : List Value) (k : Nat → List Value → Prop) : Prop := match st with
  | .ref a :: r => k a r
  | _ => False
/-- a reference or null -/
def xm_n (st : List Value) (kn : List Value → Prop) (k : Nat → List Value → Prop) : Prop := match st with
  | .ref a :: r => k a r
  | .null :: r => kn r
  | _ => False
/-- an index above an array -/
def xm_ai (st : List Value) (k : Nat → Int32 → List Value → Prop) : Prop := match st with
  | .int i :: .ref a :: r => k a i r
  | _ => False
def xm_aii (st : List Value) (k : Nat → Int32 → Int32 → List Value → Prop) : Prop := match st with
  | .int v :: .int i :: .ref a :: r => k a i v r
  | _ => False
def xm_ail (st : List Value) (k : Nat → Int32 → Int64 → List Value → Prop) : Prop := match st with
  | .long v :: .int i :: .ref a :: r => k a i v r
  | _ => False
/-- any value above a reference -/
def xm_av (st : List Value) (k : Nat → Value → List Value → Prop) : Prop := match st with
  | v :: .ref a :: r => k a v r
  | _ => False
def xm_ri (st : List Value) (k : Int32 → Prop) : Prop := match st with
  | [.int a] => k a
  | _ => False
def xm_rl (st : List Value) (k : Int64 → Prop) : Prop := match st with
  | [.long a] => k a
  | _ => False
def xm_rv (st : List Value) (k : Prop) : Prop := match st with
  | [] => k
  | _ => False
def xm_Li (L : xm_L) (x : Nat) (k : Int32 → Prop) : Prop := match L[x]? with
  | some (some (.int v)) => k v
  | _ => False
def xm_Ll (L : xm_L) (x : Nat) (k : Int64 → Prop) : Prop := match L[x]? with
  | some (some (.long v)) => k v
  | _ => False
def xm_La (L : xm_L) (x : Nat) (kn : Prop) (k : Nat → Prop) : Prop := match L[x]? with
  | some (some (.ref v)) => k v
  | some (some .null) => kn
  | _ => False
/-- the array of ints (booleans, bytes, chars) at a, of a class -/
def xm_Ai (h : xm_H) (cA : ClassId) (a : Nat) (k : Nat → (Nat → Int32) → Prop) : Prop := match h.1 a with
  | some (.inl (c, n, .inl f)) => c = cA ∧ k n f
  | _ => False
def xm_Al (h : xm_H) (cA : ClassId) (a : Nat) (k : Nat → (Nat → Int64) → Prop) : Prop := match h.1 a with
  | some (.inl (c, n, .inr (.inl f))) => c = cA ∧ k n f
  | _ => False
def xm_Aq (h : xm_H) (cA : ClassId) (a : Nat) (k : Nat → (Nat → Option Nat) → Prop) : Prop := match h.1 a with
  | some (.inl (c, n, .inr (.inr (.inr (.inr f))))) => c = cA ∧ k n f
  | _ => False
/-- the array at a, of one of the classes: its length -/
def xm_An (h : xm_H) (ac : Nat → ClassId) (a : Nat) (k : Nat → Prop) : Prop := match h.1 a with
  | some (.inl (c, n, _)) => (c = ac 0 ∨ c = ac 1 ∨ c = ac 2 ∨ c = ac 3 ∨ c = ac 4 ∨ c = ac 5) ∧ k n
  | _ => False
/-- the object at a, of class ci: its fields -/
def xm_O (h : xm_H) (ci a : Nat) (k : List Value → Prop) : Prop := match h.1 a with
  | some (.inr (c, fs)) => c = ci ∧ k fs
  | _ => False
def xm_sw (a : Int32) (K : Nat → Prop) (dflt : Nat) : List (Int32 × Nat) → Prop
  | [] => K dflt
  | q :: r => (a = q.1 → K q.2) ∧ (¬ a = q.1 → xm_sw a K dflt r)
def xm_fit (ty : FieldType) (v : Value) : Prop := narrow ty v = v ∧ fits ty v = true
/-- both arms of a test -/
def xm_br (c : Prop) (A B : Prop) : Prop := (c → A) ∧ (¬ c → B)
/-- a new array's cell -/
def xm_new (ac : Nat → ClassId) (n : Nat) : ArrayType → Option va_E
  | .int => some (.inl (ac 0, n, .inl (fun _ => 0)))
  | .long => some (.inl (ac 1, n, .inr (.inl (fun _ => 0))))
  | .boolean => some (.inl (ac 2, n, .inl (fun _ => 0)))
  | .byte => some (.inl (ac 3, n, .inl (fun _ => 0)))
  | .char => some (.inl (ac 4, n, .inl (fun _ => 0)))
  | _ => none
def xm_F (ac : Nat → ClassId) (lo : Nat) (fty : Nat → Nat → FieldType) (tb : Nat → Option xm_I) (rt : Option FieldType) (post : xm_Q) (X : xm_X) (pc : Nat) (L : xm_L) (st : List Value) (h : xm_H) (rc rs : Nat) : Prop :=
  match tb pc with
  | none => False
  | some (i, x, y, w, v, ts) => match i with
    | .iconst _ => X (pc + 1) L (.int w :: st) h rc rs
    | .bipush _ => X (pc + 2) L (.int w :: st) h rc rs
    | .sipush _ => X (pc + 3) L (.int w :: st) h rc rs
    | .ldc _ => X (pc + 2) L (.int w :: st) h rc rs
    | .ldc_w _ => X (pc + 3) L (.int w :: st) h rc rs
    | .lconst _ => X (pc + 1) L (.long v :: st) h rc rs
    | .ldc2_w _ => X (pc + 3) L (.long v :: st) h rc rs
    | .aconst_null => X (pc + 1) L (.null :: st) h rc rs
    | .iload_n _ => xm_Li L x fun a => X (pc + 1) L (.int a :: st) h rc rs
    | .iload _ => xm_Li L x fun a => X (pc + 2) L (.int a :: st) h rc rs
    | .lload_n _ => xm_Ll L x fun a => X (pc + 1) L (.long a :: st) h rc rs
    | .lload _ => xm_Ll L x fun a => X (pc + 2) L (.long a :: st) h rc rs
    | .aload_n _ => xm_La L x (X (pc + 1) L (.null :: st) h rc rs) fun a => X (pc + 1) L (.ref a :: st) h rc rs
    | .aload _ => xm_La L x (X (pc + 2) L (.null :: st) h rc rs) fun a => X (pc + 2) L (.ref a :: st) h rc rs
    | .istore_n _ => xm_i st fun a r => x < L.length ∧ X (pc + 1) (xm_s1 L x (.int a)) r h rc rs
    | .istore _ => xm_i st fun a r => x < L.length ∧ X (pc + 2) (xm_s1 L x (.int a)) r h rc rs
    | .lstore_n _ => xm_l st fun a r => x + 1 < L.length ∧ X (pc + 1) (xm_s2 L x (.long a)) r h rc rs
    | .lstore _ => xm_l st fun a r => x + 1 < L.length ∧ X (pc + 2) (xm_s2 L x (.long a)) r h rc rs
    | .astore_n _ => xm_a st fun a r => x < L.length ∧ X (pc + 1) (xm_s1 L x (.ref a)) r h rc rs
    | .astore _ => xm_a st fun a r => x < L.length ∧ X (pc + 2) (xm_s1 L x (.ref a)) r h rc rs
    | .iinc _ _ => xm_Li L x fun a => x < L.length ∧ X (pc + 3) (xm_s1 L x (.int (a + w))) st h rc rs
    | .iadd => xm_ii st fun a b r => X (pc + 1) L (.int (a + b) :: r) h rc rs
    | .isub => xm_ii st fun a b r => X (pc + 1) L (.int (a - b) :: r) h rc rs
    | .imul => xm_ii st fun a b r => X (pc + 1) L (.int (a * b) :: r) h rc rs
    | .iand => xm_ii st fun a b r => X (pc + 1) L (.int (a &&& b) :: r) h rc rs
    | .ior => xm_ii st fun a b r => X (pc + 1) L (.int (a ||| b) :: r) h rc rs
    | .ixor => xm_ii st fun a b r => X (pc + 1) L (.int (a ^^^ b) :: r) h rc rs
    | .idiv => xm_ii st fun a b r => ¬ b = 0 ∧ X (pc + 1) L (.int (a / b) :: r) h rc rs
    | .irem => xm_ii st fun a b r => ¬ b = 0 ∧ X (pc + 1) L (.int (a - a / b * b) :: r) h rc rs
    | .ineg => xm_i st fun a r => X (pc + 1) L (.int (-a) :: r) h rc rs
    | .ishl => xm_ii st fun a b r => X (pc + 1) L (.int (a <<< (b &&& 31)) :: r) h rc rs
    | .ishr => xm_ii st fun a b r => X (pc + 1) L (.int (a >>> (b &&& 31)) :: r) h rc rs
    | .iushr => xm_ii st fun a b r => X (pc + 1) L (.int (a.toUInt32 >>> (b.toUInt32 &&& Int32.toUInt32 31)).toInt32 :: r) h rc rs
    | .ladd => xm_ll st fun a b r => X (pc + 1) L (.long (a + b) :: r) h rc rs
    | .lsub => xm_ll st fun a b r => X (pc + 1) L (.long (a - b) :: r) h rc rs
    | .lmul => xm_ll st fun a b r => X (pc + 1) L (.long (a * b) :: r) h rc rs
    | .land => xm_ll st fun a b r => X (pc + 1) L (.long (a &&& b) :: r) h rc rs
    | .lor => xm_ll st fun a b r => X (pc + 1) L (.long (a ||| b) :: r) h rc rs
    | .lxor => xm_ll st fun a b r => X (pc + 1) L (.long (a ^^^ b) :: r) h rc rs
    | .lneg => xm_l st fun a r => X (pc + 1) L (.long (-a) :: r) h rc rs
    | .ldiv => xm_ll st fun a b r => ¬ b = 0 ∧ X (pc + 1) L (.long (a / b) :: r) h rc rs
    | .lrem => xm_ll st fun a b r => ¬ b = 0 ∧ X (pc + 1) L (.long (a - a / b * b) :: r) h rc rs
    | .lshl => xm_li st fun a b r => X (pc + 1) L (.long (a <<< (b.toInt64 &&& 63)) :: r) h rc rs
    | .lshr => xm_li st fun a b r => X (pc + 1) L (.long (a >>> (b.toInt64 &&& 63)) :: r) h rc rs
    | .lushr => xm_li st fun a b r => X (pc + 1) L (.long (a.toUInt64 >>> (b.toInt64.toUInt64 &&& Int64.toUInt64 63)).toInt64 :: r) h rc rs
    | .i2l => xm_i st fun a r => X (pc + 1) L (.long a.toInt64 :: r) h rc rs
    | .l2i => xm_l st fun a r => X (pc + 1) L (.int a.toInt32 :: r) h rc rs
    | .i2b => xm_i st fun a r => X (pc + 1) L (.int a.toInt8.toInt32 :: r) h rc rs
    | .i2c => xm_i st fun a r => X (pc + 1) L (.int (a.toUInt32 % 65536).toInt32 :: r) h rc rs
    | .dup => match st with
      | u :: r => u.category = 1 ∧ X (pc + 1) L (u :: u :: r) h rc rs
      | _ => False
    | .pop => match st with
      | u :: r => u.category = 1 ∧ X (pc + 1) L r h rc rs
      | _ => False
    | .dup_x1 => match st with
      | u :: t :: r => u.category = 1 ∧ t.category = 1 ∧ X (pc + 1) L (u :: t :: u :: r) h rc rs
      | _ => False
    | .dup2 => match st with
      | u :: t :: r => u.category = 1 ∧ t.category = 1 ∧ X (pc + 1) L (u :: t :: u :: t :: r) h rc rs
      | _ => False
    | .goto _ => X x L st h rc rs
    | .ifCond .eq _ => xm_i st fun a r => xm_br (a = 0) (X x L r h rc rs) (X (pc + 3) L r h rc rs)
    | .ifCond .ne _ => xm_i st fun a r => xm_br (¬ a = 0) (X x L r h rc rs) (X (pc + 3) L r h rc rs)
    | .ifCond .lt _ => xm_i st fun a r => xm_br (a < 0) (X x L r h rc rs) (X (pc + 3) L r h rc rs)
    | .ifCond .ge _ => xm_i st fun a r => xm_br (0 ≤ a) (X x L r h rc rs) (X (pc + 3) L r h rc rs)
    | .ifCond .gt _ => xm_i st fun a r => xm_br (0 < a) (X x L r h rc rs) (X (pc + 3) L r h rc rs)
    | .ifCond .le _ => xm_i st fun a r => xm_br (a ≤ 0) (X x L r h rc rs) (X (pc + 3) L r h rc rs)
    | .if_icmp .eq _ => xm_ii st fun a b r => xm_br (a = b) (X x L r h rc rs) (X (pc + 3) L r h rc rs)
    | .if_icmp .ne _ => xm_ii st fun a b r => xm_br (¬ a = b) (X x L r h rc rs) (X (pc + 3) L r h rc rs)
    | .if_icmp .lt _ => xm_ii st fun a b r => xm_br (a < b) (X x L r h rc rs) (X (pc + 3) L r h rc rs)
    | .if_icmp .ge _ => xm_ii st fun a b r => xm_br (b ≤ a) (X x L r h rc rs) (X (pc + 3) L r h rc rs)
    | .if_icmp .gt _ => xm_ii st fun a b r => xm_br (b < a) (X x L r h rc rs) (X (pc + 3) L r h rc rs)
    | .if_icmp .le _ => xm_ii st fun a b r => xm_br (a ≤ b) (X x L r h rc rs) (X (pc + 3) L r h rc rs)
    | .lcmp => xm_ll st fun a b r => X (pc + 1) L (.int (lg_cmp a b) :: r) h rc rs
    | .tableswitch _ _ _ _ => xm_i st fun a r => xm_sw a (fun t => X t L r h rc rs) x ts
    | .lookupswitch _ _ => xm_i st fun a r => xm_sw a (fun t => X t L r h rc rs) x ts
    | .ifnull _ => xm_n st (fun r => X x L r h rc rs) (fun _ r => X (pc + 3) L r h rc rs)
    | .ifnonnull _ => xm_n st (fun r => X (pc + 3) L r h rc rs) (fun _ r => X x L r h rc rs)
    | .getfield _ => xm_a st fun a r => xm_O h x a fun fs => match fs[y]? with
      | some u => X (pc + 3) L (u :: r) h rc rs
      | none => False
    | .putfield _ => xm_av st fun a u r => xm_O h x a fun fs => lo ≤ a ∧ y < fs.length ∧ xm_fit (fty x y) u ∧ X (pc + 3) L r (xm_up h a (.inr (x, fs.set y u))) rc rs
    | .iaload => xm_ai st fun a j r => xm_Ai h (ac 0) a fun n f => vp_in j n ∧ X (pc + 1) L (.int (f j.toNatClampNeg) :: r) h rc rs
    | .laload => xm_ai st fun a j r => xm_Al h (ac 1) a fun n f => vp_in j n ∧ X (pc + 1) L (.long (f j.toNatClampNeg) :: r) h rc rs
    | .caload => xm_ai st fun a j r => xm_Ai h (ac 4) a fun n f => vp_in j n ∧ X (pc + 1) L (.int (f j.toNatClampNeg) :: r) h rc rs
    | .baload => xm_ai st fun a j r => xm_Ai h (ac x) a fun n f => vp_in j n ∧ X (pc + 1) L (.int (f j.toNatClampNeg) :: r) h rc rs
    | .aaload => xm_ai st fun a j r => xm_Aq h (ac 5) a fun n f => vp_in j n ∧ X (pc + 1) L (va_rf (f j.toNatClampNeg) :: r) h rc rs
    | .iastore => xm_aii st fun a j u r => xm_Ai h (ac 0) a fun n f => vp_in j n ∧ lo ≤ a ∧ X (pc + 1) L r (xm_up h a (.inl (ac 0, n, .inl (upd f j.toNatClampNeg u)))) rc rs
    | .lastore => xm_ail st fun a j u r => xm_Al h (ac 1) a fun n f => vp_in j n ∧ lo ≤ a ∧ X (pc + 1) L r (xm_up h a (.inl (ac 1, n, .inr (.inl (vp_updL f j.toNatClampNeg u))))) rc rs
    | .castore => xm_aii st fun a j u r => xm_Ai h (ac 4) a fun n f => vp_in j n ∧ lo ≤ a ∧ X (pc + 1) L r (xm_up h a (.inl (ac 4, n, .inl (upd f j.toNatClampNeg (vp_nar .char u))))) rc rs
    | .bastore => xm_aii st fun a j u r => xm_Ai h (ac x) a fun n f => vp_in j n ∧ lo ≤ a ∧ X (pc + 1) L r (xm_up h a (.inl (ac x, n, .inl (upd f j.toNatClampNeg (vp_nar (if x = 2 then .boolean else .byte) u))))) rc rs
    | .arraylength => xm_a st fun a r => xm_An h ac a fun n => X (pc + 1) L (.int (Int32.ofNat n) :: r) h rc rs
    | .newarray t => xm_i st fun j r => ¬ j < 0 ∧ j.toNatClampNeg * 8 ≤ 536870912 ∧ 1 ≤ rc ∧ j.toNatClampNeg ≤ rs ∧ match xm_new ac j.toNatClampNeg t with
      | some e => X (pc + 2) L (.ref h.2 :: r) (xm_nw h e) (rc - 1) (rs - j.toNatClampNeg)
      | none => False
    | .ireturn => xm_ri st fun a => (∃ ty, rt = some ty ∧ narrow ty (.int a) = .int a) ∧ post (.inl (some (.int a))) h
    | .lreturn => xm_rl st fun a => rt = some .long ∧ post (.inl (some (.long a))) h
    | .return_ => xm_rv st (rt = none ∧ post (.inl none) h)
    | _ => False
