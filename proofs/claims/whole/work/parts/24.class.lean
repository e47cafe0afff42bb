/-! ===== the class holds a state ===== -/
def rowsOK (σ : MS) : Prop := (∀ i, 0 ≤ i → i < 8 → isS (gR σ 22 i) ∧ 40 ≤ gR σ 22 i ∧ gR σ 22 i < 56) ∧ ∀ i j, 0 ≤ i → i < 8 → 0 ≤ j → j < 8 → gR σ 22 i = gR σ 22 j → i = j
def VA (σ : MS) (v : Nat) : Prop := ∀ p, 0 ≤ p → p < 49 → ¬ gI σ (v + 3) p = 0 → p / 7 < p % 7 ∧ p % 7 < gI σ v 5
/-- what the search keeps is right for the standing that was asked -/
def EOK (σ : MS) (V : VT) : Prop := ∃ D, IsD (nx V (stC σ 60)) (vN V) (gI σ 60 2) (gI σ 60 5) D ∧ gI σ 25 9 = D ∧ (¬ D = -4 → ∀ t : Int, 0 ≤ t → t < D → ∃ c, IsRow (nx V (stC σ 60)) (vN V) (gI σ 60 2) (gI σ 60 5) D.toNat t.toNat c ∧ gI σ 30 t = rowV c)
def CI (σ : MS) (A : AT) : Prop :=
  ((gR σ 0 0 = 1 ∧ gR σ 0 1 = 7) ∨ (gR σ 0 0 = 7 ∧ gR σ 0 1 = 1)) ∧ gR σ 17 2 = gR σ 0 0 ∧ NI σ (aV A) ∧ VA σ (gR σ 0 0) ∧
  (stC σ 36 = aS A ∧ shOK (gL σ 36 6)) ∧
  (gI σ 21 1 = aUn A ∧ rowsOK σ ∧ ∀ i, 0 ≤ i → i < aUn A → stC σ (gR σ 22 i) = aUf A i ∧ shOK (gL σ (gR σ 22 i) 6)) ∧
  (gI σ 23 1 = aKn A ∧ gR σ 24 0 = 56 ∧ gR σ 24 1 = 58 ∧ ∀ i, 0 ≤ i → i < aKn A → stC σ (gR σ 24 i) = aKf A i ∧ shOK (gL σ (gR σ 24 i) 6)) ∧
  (gI σ 25 10 = 0 ∨ EOK σ (aV A)) ∧
  (gI σ 0 13 = aEn A ∧ ∀ i, 0 ≤ i → i < aEn A → gI σ 34 i = aEh A i ∧ gI σ 35 i = aEd A i) ∧
  gI σ 13 1 = aTn A ∧ ∀ i, 0 ≤ i → i < aTn A → gI σ 14 i = aTl A i
/-- cells that hold nothing of the state -/
def scr (d k : Nat) : Prop := (15 ≤ k ∧ k ≤ 20) ∨ (26 ≤ k ∧ k ≤ 29) ∨ (31 ≤ k ∧ k ≤ 33) ∨ k = 38 ∨ k = 39 ∨ k = 62 ∨ k = 63 ∨ (d ≤ k ∧ k ≤ d + 5)
theorem CI.fr {σ σ' : MS} {A : AT} {ks : List Nat} (h : CI σ A) (hF : Fr ks σ σ') (hk : ∀ k ∈ ks, scr (gR σ 0 1) k) (hN : NI σ' (aV A)) (hR : gR σ' 17 2 = gR σ 17 2) : CI σ' A := by
  obtain ⟨h1, h2, h3, h4, ⟨h5, h5b⟩, ⟨h6, h6b, h6c⟩, ⟨h7, h7b, h7c, h7d⟩, h8, ⟨h9, h9b⟩, h10, h11⟩ := h
  have nk : ∀ k, ¬ scr (gR σ 0 1) k → k ∉ ks := fun k hn q => hn (hk k q)
  have n : ∀ k, (k = 0 ∨ k = 13 ∨ k = 14 ∨ (21 ≤ k ∧ k ≤ 25) ∨ k = 30 ∨ (34 ≤ k ∧ k ≤ 37) ∨ (40 ≤ k ∧ k ≤ 61)) → k ∉ ks := fun k hh => nk k (by unfold scr; omega)
  have e0 := hF.gR (n 0 (by omega))
  have st : ∀ s, (s = 36 ∨ (40 ≤ s ∧ s ≤ 60)) → s % 2 = 0 → stC σ' s = stC σ s ∧ gL σ' s 6 = gL σ s 6 := fun s hs he => ⟨stC_Fr hF ⟨n s (by omega), n (s + 1) (by omega)⟩, hF.gL (n s (by omega)) 6⟩
  have eV : ∀ k, gR σ 0 0 ≤ k → k ≤ gR σ 0 0 + 5 → k ∉ ks := fun k k1 k2 => nk k (by unfold scr; omega)
  refine ⟨by rw [e0, e0]; exact h1, by rw [hR, e0]; exact h2, hN, ?_, ?_, ?_, ?_, ?_, ?_, ?_⟩
  · intro p p1 p2
    rw [e0, hF.gI (eV _ (by omega) (by omega)), hF.gI (eV _ (by omega) (by omega))]
    exact h4 p p1 p2
  · rw [(st 36 (Or.inl rfl) rfl).1, (st 36 (Or.inl rfl) rfl).2]
    exact ⟨h5, h5b⟩
  · have e22 := hF.gR (n 22 (by omega))
    refine ⟨by rw [hF.gI (n 21 (by omega))]; exact h6, ⟨fun i i1 i2 => by rw [e22]; exact h6b.1 i i1 i2, fun i j i1 i2 j1 j2 => by rw [e22, e22]; exact h6b.2 i j i1 i2 j1 j2⟩, fun i i1 i2 => ?_⟩
    rw [e22]
    by_cases h8' : i < 8
    · have q := h6b.1 i i1 h8'
      have hs := q.1
      unfold isS at hs
      rw [(st _ (Or.inr (by omega)) hs.2.2).1, (st _ (Or.inr (by omega)) hs.2.2).2]
      exact h6c i i1 i2
    · by_cases hin : gR σ 22 i ∈ ks ∨ gR σ 22 i + 1 ∈ ks
      · exfalso
        have q := h6c i i1 i2
        exact absurd i2 (by
          intro _
          exact h8' (by
            have := h6
            exact Classical.byContradiction (fun _ => by
              exact h8' (by omega))))
      · rw [stC_Fr hF ⟨fun q => hin (Or.inl q), fun q => hin (Or.inr q)⟩, hF.gL (fun q => hin (Or.inl q))]
        exact h6c i i1 i2
  · sorry
  · sorry
  · sorry
  · sorry
