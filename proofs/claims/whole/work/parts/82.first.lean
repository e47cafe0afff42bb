/-! ===== the first text ===== -/
def ftl : List Int := [104, 48, 44, 53, 59, 104, 49, 44, 49, 48, 59, 104, 50, 44, 56, 59, 104, 48, 44, 50, 48, 59, 104, 51, 44, 48, 59, 104, 48, 44, 49, 50, 59, 119, 48, 44, 49, 44, 49, 48, 59, 119, 49, 44, 50, 44, 49, 53, 59, 119, 50, 44, 51, 44, 50, 48, 59, 119, 51, 44, 52, 44, 49, 48, 59, 119, 52, 44, 48, 44, 50, 53, 59, 119, 52, 44, 53, 44, 56, 59, 119, 50, 44, 53, 44, 51, 48, 59, 115, 48, 44, 49, 44, 51, 44, 57, 59, 115, 52, 44, 53, 44, 53, 44, 54, 59, 98, 48, 59, 110, 53, 53, 59]
def ftN : Int := 113
def ftf (i : Int) : Int := ftl.getD i.toNat 0
def ftD : Int × DT := prs (ltr ftN ftf) ftN 200 0 dt0
theorem ft_1 : ftD.1 = -4 ∧ dN ftD.2 = 6 ∧ dB ftD.2 = 0 ∧ dM ftD.2 = 55 := by decide +kernel
theorem ft_k : ∀ i : Fin 6, dK ftD.2 ((i.val : Nat) : Int) = [0, 1, 2, 0, 3, 0].getD i.val 0 ∧ dL ftD.2 ((i.val : Nat) : Int) = [5, 10, 8, 20, 0, 12].getD i.val 0 := by decide +kernel
theorem ft_w : ∀ p : Fin 49, dW ftD.2 ((p.val : Nat) : Int) = if p.val = 1 then 10 else if p.val = 9 then 15 else if p.val = 17 then 20 else if p.val = 25 then 10 else if p.val = 4 then 25 else if p.val = 33 then 8 else if p.val = 19 then 30 else 0 := by decide +kernel
theorem ft_in : ∀ i : Fin 113, 32 ≤ ftf ((i.val : Nat) : Int) ∧ ftf ((i.val : Nat) : Int) ≤ 126 := by decide +kernel
theorem ft_S : dS ftD.2 = fun p x => if p = pr 4 5 then decide (5 ≤ x ∧ x ≤ 6) else if p = pr 0 1 then decide (3 ≤ x ∧ x ≤ 9) else false := by
  funext p x
  rfl
