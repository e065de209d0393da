def nfs : List Nat := []
def fks : List (List Int) := []
def cwl : List (List Int) := []
def tt : List (Nat ⊕ (Nat × Nat)) := [.inl 0, .inr (0, 5)]
abbrev vwCl : List vw_C := []
def nSt : Nat := 1
def lenSt : List Nat := [2]
def bytSt : List (List Int32) := [[1, 2]]
def stLk : List (String × Nat × String × Nat) := []
def ssz (n : Nat) : Nat := (([1,2,3] : List Nat).take n).sum
theorem nfs_ok : vwCl.map (fun r => r.2.2) = nfs := rfl
theorem fks_ge : fks.all (fun l => l.all (fun z => decide (z = 0 ∨ z = 1 ∨ z = 2 ∨ 3 ≤ z))) = true := by decide +kernel
