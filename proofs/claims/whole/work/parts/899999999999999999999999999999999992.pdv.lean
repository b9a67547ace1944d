/-! THE PAIR derive -/
section PDV
variable {ac : Nat → ClassId} {lo : Nat} {ad as : Nat → Nat} {b L : Nat} {zs : Nat → Int32} {hp : mm_M → Nat → xm_H} {I J : mm_M → Prop}
theorem pr_derive (H : mm_L ac lo hp) (h1 : ∀ M, I M → dv_iv scZ rsZ M) (hJ : ∀ M N, I M → dvF M N → dv_iv scZ rsZ N → J N) (how p q : Int32) : la_I ac lo ad as b L zs hp I J nm_X11_derive nm_X12_derive [.int how, .int p, .int q] := pr_dvO H scZ_k rsZ_k shC_Z shR_Z shZ_L h1 hJ how p q
end PDV
