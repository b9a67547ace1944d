/-! what the law's walk owes -/
theorem xl_owed (ac : Nat → ClassId) (lo : Nat) (ad as : Nat → Nat) (b L : Nat) (xs : Nat → Int32) (hL : L ≤ 384) : xl_Owed ac lo ad as (b, L, xs) := xl_owed_of hL (fun _ => IV) IV_0 (fun _ _ h => h) (fun _ H n _ => wh_hyp H n)
