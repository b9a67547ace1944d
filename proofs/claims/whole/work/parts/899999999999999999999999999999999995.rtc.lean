/-! ROUTE: arrangements have ranks -/
def cnW : Nat → Nat
  | 0 => 1
  | w + 1 => cnW w * (6 - w)
def rkF : List Nat → Nat → Nat → Nat → Nat
  | [], _, r, _ => r
  | x :: p, i, r, u => rkF p (i + 1) (r * (6 - i) + x - pc (u &&& (2 ^ x - 1))) (u ||| 2 ^ x)
def rkP (p : List Nat) : Nat := rkF p 0 0 0
/-- the lowest bits go, so many -/
def clL : Nat → Nat → Nat
  | 0, n => n
  | k + 1, n => clL k (n &&& (n - 1))
def unF : Nat → Nat → Nat → Nat → Nat → List Nat
  | 0, _, _, _, _ => []
  | m + 1, i, fr, lf, ea => lw (clL (lf / (ea / (6 - i))) fr) :: unF m (i + 1) (fr ^^^ 2 ^ lw (clL (lf / (ea / (6 - i))) fr)) (lf % (ea / (6 - i))) (ea / (6 - i))
def unP (W r : Nat) : List Nat := unF W 0 63 r (cnW W)
def arr (W : Nat) (p : List Nat) : Prop := p.length = W ∧ (∀ x ∈ p, x < 6) ∧ p.Nodup
def prm : Nat → List (List Nat)
  | 0 => [[]]
  | w + 1 => (prm w).flatMap fun p => ((List.range 6).filter fun x => !p.contains x).map fun x => p ++ [x]
set_option maxRecDepth 100000 in
theorem prm_ok : ∀ W, W < 7 → ((prm W).all fun p => decide (rkP p < cnW W) && decide (unP W (rkP p) = p)) = true := by decide +kernel
def arB (W : Nat) (p : List Nat) : Bool := decide (p.length = W) && (p.all fun x => decide (x < 6)) && decide p.Nodup
set_option maxRecDepth 100000 in
theorem unP_ok : ∀ W, W < 7 → ((List.range (cnW W)).all fun r => arB W (unP W r) && decide (rkP (unP W r) = r)) = true := by decide +kernel
