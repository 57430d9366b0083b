/-! a search in breadth, edge by edge -/
section PZB
variable {N : Nat} {nb : Nat → List Nat} {s : Nat}
/-- which edges have been gone along: E u v is how often from u to v -/
def pz_B (N s : Nat) (far : Nat → Option Nat) (c : Nat → Nat) (ord : Nat → Nat) (many q : Nat) (E : Nat → Nat → Nat) : Prop :=
  (far s = some 0) ∧ (∀ i, i < many → ord i < N ∧ far (ord i) ≠ none) ∧ (∀ i j, i < many → j < many → ord i = ord j → i = j) ∧
  (∀ v, v < N → far v ≠ none → ∃ i, i < many ∧ ord i = v) ∧
  (∀ i j fi fj, i ≤ j → j < many → far (ord i) = some fi → far (ord j) = some fj → fi ≤ fj) ∧
  (∀ i fi fq, i < many → q < many → far (ord i) = some fi → far (ord q) = some fq → fi ≤ fq + 1) ∧
  (∀ u v, u < N → 0 < E u v → (∃ i, i ≤ q ∧ i < many ∧ ord i = u) ∧ ∃ fu fv, far u = some fu ∧ far v = some fv ∧ fv ≤ fu + 1) ∧
  (∀ v fv, v < N → far v = some fv → v ≠ s → ∃ u fu, u < N ∧ 0 < E u v ∧ far u = some fu ∧ fv = fu + 1) ∧
  (∀ v, v < N → c v = (if v = s then 1 else 0) + pz_sm (fun u => if (∃ fu, far u = some fu ∧ far v = some (fu + 1)) then E u v * c u else 0) N)
end PZB
