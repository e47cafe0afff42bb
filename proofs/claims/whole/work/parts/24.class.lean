/-! ===== the class holds a state ===== -/
def rowsOK (σ : MS) : Prop := (∀ i, 0 ≤ i → i < 8 → isS (gR σ 22 i) ∧ 40 ≤ gR σ 22 i ∧ gR σ 22 i < 56) ∧ ∀ i j, 0 ≤ i → i < 8 → 0 ≤ j → j < 8 → gR σ 22 i = gR σ 22 j → i = j
/-- what the search keeps is right for the standing that was asked -/
def EOK (σ : MS) (V : VT) : Prop := ∃ D, IsD (nx V (stC σ 60)) (vN V) (gI σ 60 2) (gI σ 60 5) D ∧ gI σ 25 9 = D ∧ (¬ D = -4 → ∀ t : Int, 0 ≤ t → t < D → ∃ c, IsRow (nx V (stC σ 60)) (vN V) (gI σ 60 2) (gI σ 60 5) D.toNat t.toNat c ∧ gI σ 30 t = rowV c)
/-- a way in the valley's rows lies at a pair of its homes -/
def VA (σ : MS) (v : Nat) : Prop := ∀ p, 0 ≤ p → p < 49 → ¬ gI σ (v + 3) p = 0 → p / 7 < p % 7 ∧ p % 7 < gI σ v 5
theorem VA.fr {σ σ' : MS} {v : Nat} {ks : List Nat} (h : VA σ v) (hv : v = 1 ∨ v = 7) (hF : Fr ks σ σ') (hk : ∀ k ∈ ks, 13 ≤ k ∨ k = 0) : VA σ' v := by
  intro p p1 p2
  rw [hF.gI (fun q => by have := hk _ q; omega), hF.gI (fun q => by have := hk _ q; omega)]
  exact h p p1 p2
def CV (σ : MS) (A : AT) : Prop := ((gR σ 0 0 = 1 ∧ gR σ 0 1 = 7) ∨ (gR σ 0 0 = 7 ∧ gR σ 0 1 = 1)) ∧ gR σ 17 2 = gR σ 0 0 ∧ NI σ (aV A) ∧ VA σ (gR σ 0 0)
def CS (σ : MS) (A : AT) : Prop := stC σ 36 = aS A ∧ shOK (gL σ 36 6)
def CU (σ : MS) (A : AT) : Prop := (0 ≤ aUn A ∧ aUn A ≤ 8) ∧ gI σ 21 1 = aUn A ∧ rowsOK σ ∧ ∀ i, 0 ≤ i → i < aUn A → stC σ (gR σ 22 i) = aUf A i ∧ shOK (gL σ (gR σ 22 i) 6)
def CK (σ : MS) (A : AT) : Prop := (0 ≤ aKn A ∧ aKn A ≤ 2) ∧ gI σ 23 1 = aKn A ∧ (gR σ 24 0 = 56 ∧ gR σ 24 1 = 58) ∧ ∀ i, 0 ≤ i → i < aKn A → stC σ (gR σ 24 i) = aKf A i ∧ shOK (gL σ (gR σ 24 i) 6)
def CQ (σ : MS) (A : AT) : Prop := gI σ 25 10 = 0 ∨ gI σ 25 10 = 1 ∧ EOK σ (aV A)
def CN (σ : MS) (A : AT) : Prop := gI σ 0 13 = aEn A ∧ ∀ i, 0 ≤ i → i < aEn A → gI σ 34 i = aEh A i ∧ gI σ 35 i = aEd A i
def CT (σ : MS) (A : AT) : Prop := gI σ 13 1 = aTn A ∧ ∀ i, 0 ≤ i → i < aTn A → gI σ 14 i = aTl A i
def CI (σ : MS) (A : AT) : Prop := CV σ A ∧ CS σ A ∧ CU σ A ∧ CK σ A ∧ CQ σ A ∧ CN σ A ∧ CT σ A
theorem CS.fr {σ σ' : MS} {A : AT} {ks : List Nat} (h : CS σ A) (hF : Fr ks σ σ') (hk : ∀ k ∈ ks, ¬ k = 36 ∧ ¬ k = 37) : CS σ' A := by
  have n6 : 36 ∉ ks := fun q => (hk _ q).1 rfl
  have n7 : 37 ∉ ks := fun q => (hk _ q).2 rfl
  refine ⟨?_, by rw [hF.gL n6]; exact h.2⟩
  rw [stC_Fr hF ⟨n6, n7⟩]
  exact h.1
theorem CU.fr {σ σ' : MS} {A : AT} {ks : List Nat} (h : CU σ A) (hF : Fr ks σ σ') (hk : ∀ k ∈ ks, ¬ k = 21 ∧ ¬ k = 22 ∧ (k < 40 ∨ 56 ≤ k)) : CU σ' A := by
  obtain ⟨h1, h2, h3, h4⟩ := h
  have n1 : 21 ∉ ks := fun q => (hk _ q).1 rfl
  have n2 : 22 ∉ ks := fun q => (hk _ q).2.1 rfl
  have e := hF.gR n2
  refine ⟨h1, by rw [hF.gI n1]; exact h2, ⟨fun i i1 i2 => by rw [e]; exact h3.1 i i1 i2, fun i j i1 i2 j1 j2 => by rw [e, e]; exact h3.2 i j i1 i2 j1 j2⟩, fun i i1 i2 => ?_⟩
  have q := h3.1 i i1 (by omega)
  have hs := q.1
  unfold isS at hs
  have a1 : gR σ 22 i ∉ ks := fun z => by have := hk _ z; omega
  have a2 : gR σ 22 i + 1 ∉ ks := fun z => by have := hk _ z; omega
  rw [e, stC_Fr hF ⟨a1, a2⟩, hF.gL a1]
  exact h4 i i1 i2
theorem CK.fr {σ σ' : MS} {A : AT} {ks : List Nat} (h : CK σ A) (hF : Fr ks σ σ') (hk : ∀ k ∈ ks, ¬ k = 23 ∧ ¬ k = 24 ∧ (k < 56 ∨ 60 ≤ k)) : CK σ' A := by
  obtain ⟨h1, h2, h3, h4⟩ := h
  have n1 : 23 ∉ ks := fun q => (hk _ q).1 rfl
  have n2 : 24 ∉ ks := fun q => (hk _ q).2.1 rfl
  have e := hF.gR n2
  refine ⟨h1, by rw [hF.gI n1]; exact h2, ⟨by rw [e]; exact h3.1, by rw [e]; exact h3.2⟩, fun i i1 i2 => ?_⟩
  have hs : gR σ 24 i = 56 ∨ gR σ 24 i = 58 := by
    have : i = 0 ∨ i = 1 := by omega
    rcases this with rfl | rfl
    · exact Or.inl h3.1
    · exact Or.inr h3.2
  have a1 : gR σ 24 i ∉ ks := fun z => by have := hk _ z; omega
  have a2 : gR σ 24 i + 1 ∉ ks := fun z => by have := hk _ z; omega
  rw [e, stC_Fr hF ⟨a1, a2⟩, hF.gL a1]
  exact h4 i i1 i2
theorem CQ.fr {σ σ' : MS} {A : AT} {ks : List Nat} (h : CQ σ A) (hF : Fr ks σ σ') (hk : ∀ k ∈ ks, ¬ k = 25 ∧ ¬ k = 30 ∧ ¬ k = 60 ∧ ¬ k = 61) : CQ σ' A := by
  have n1 : 25 ∉ ks := fun q => (hk _ q).1 rfl
  have n2 : 30 ∉ ks := fun q => (hk _ q).2.1 rfl
  have n3 : 60 ∉ ks := fun q => (hk _ q).2.2.1 rfl
  have n4 : 61 ∉ ks := fun q => (hk _ q).2.2.2 rfl
  unfold CQ EOK
  rw [stC_Fr hF ⟨n3, n4⟩, hF.gI n1, hF.gI n1, hF.gI n3, hF.gI n3]
  simp only [hF.gI n2]
  exact h
theorem CN.fr {σ σ' : MS} {A : AT} {ks : List Nat} (h : CN σ A) (hF : Fr ks σ σ') (hk : ∀ k ∈ ks, ¬ k = 0 ∧ ¬ k = 34 ∧ ¬ k = 35) : CN σ' A := by
  have n1 : 0 ∉ ks := fun q => (hk _ q).1 rfl
  have n2 : 34 ∉ ks := fun q => (hk _ q).2.1 rfl
  have n3 : 35 ∉ ks := fun q => (hk _ q).2.2 rfl
  unfold CN
  rw [hF.gI n1]
  simp only [hF.gI n2, hF.gI n3]
  exact h
theorem CT.fr {σ σ' : MS} {A : AT} {ks : List Nat} (h : CT σ A) (hF : Fr ks σ σ') (hk : ∀ k ∈ ks, ¬ k = 13 ∧ ¬ k = 14) : CT σ' A := by
  have n1 : 13 ∉ ks := fun q => (hk _ q).1 rfl
  have n2 : 14 ∉ ks := fun q => (hk _ q).2 rfl
  unfold CT
  rw [hF.gI n1]
  simp only [hF.gI n2]
  exact h
theorem CV.fr {σ σ' : MS} {A : AT} {ks : List Nat} (h : CV σ A) (hF : Fr ks σ σ') (hk : ∀ k ∈ ks, 20 ≤ k ∨ (13 ≤ k ∧ k < 17)) : CV σ' A := by
  obtain ⟨h1, h2, h3, h4⟩ := h
  have n0 : 0 ∉ ks := fun q => by have := hk _ q; omega
  have n1 : 17 ∉ ks := fun q => by have := hk _ q; omega
  unfold CV
  rw [hF.gR n0, hF.gR n0, hF.gR n1]
  exact ⟨h1, h2, h3.Fr hF (fun k q => by have := hk k q; omega), h4.fr (by omega) hF (fun k q => by have := hk k q; omega)⟩
theorem CV.N {σ σ' : MS} {A : AT} {ks : List Nat} (h : CV σ A) (hF : Fr ks σ σ') (hk : ∀ k ∈ ks, 13 ≤ k) (hN : NI σ' (aV A)) (hR : gR σ' 17 2 = gR σ 17 2) : CV σ' A := by
  obtain ⟨h1, h2, h3, h4⟩ := h
  have n0 : 0 ∉ ks := fun q => by have := hk _ q; omega
  unfold CV
  rw [hF.gR n0, hF.gR n0, hR]
  exact ⟨h1, h2, hN, h4.fr (by omega) hF (fun k q => by have := hk k q; omega)⟩
/-- cells of the noon and of the dream -/
def dks : List Nat := [17, 18, 19, 20, 38, 39]
theorem dks_ (k : Nat) (h : k ∈ dks) : (17 ≤ k ∧ k ≤ 20) ∨ k = 38 ∨ k = 39 := by
  unfold dks at h
  simp at h
  omega
theorem CI.dr {σ σ' : MS} {A : AT} (h : CI σ A) (hF : Fr dks σ σ') (hN : NI σ' (aV A)) (hR : gR σ' 17 2 = gR σ 17 2) : CI σ' A := by
  obtain ⟨h1, h2, h3, h4, h5, h6, h7⟩ := h
  exact ⟨h1.N hF (by decide) hN hR, h2.fr hF (by decide), h3.fr hF (by decide), h4.fr hF (by decide), h5.fr hF (by decide), h6.fr hF (by decide), h7.fr hF (by decide)⟩
theorem CI.v {σ : MS} {A : AT} (h : CI σ A) : gR σ 17 2 = gR σ 0 0 := h.1.2.1
theorem CI.N {σ : MS} {A : AT} (h : CI σ A) : NI σ (aV A) := h.1.2.2.1
theorem CI.v17 {σ : MS} {A : AT} (h : CI σ A) : gR σ 0 0 = 1 ∨ gR σ 0 0 = 7 := by have := h.1.1; omega
theorem CI.n {σ : MS} {A : AT} (h : CI σ A) : gI σ (gR σ 0 0) 5 = vN (aV A) := by rw [← h.v]; exact h.N.n
theorem CI.k {σ : MS} {A : AT} (h : CI σ A) {c : Int} (hc : 0 ≤ c ∧ c < vN (aV A)) : gI σ (gR σ 0 0 + 1) c = vKind (aV A) c ∧ gI σ (gR σ 0 0 + 2) c = vLate (aV A) c := by
  have hn := h.n
  have e := h.N.2.1
  rw [h.v] at e
  rw [← e]
  constructor
  · show _ = (if _ then _ else _)
    rw [if_pos ⟨hc.1, by omega⟩]
  · show _ = (if _ then _ else _)
    rw [if_pos ⟨hc.1, by omega⟩]
theorem CI.w {σ : MS} {A : AT} (h : CI σ A) {a b : Int} (ha : 0 ≤ a ∧ a < vN (aV A)) (hb : 0 ≤ b ∧ b < vN (aV A)) (hab : ¬ a = b) : gI σ (gR σ 0 0 + 3) (pr a b) = vWay (aV A) a b := by
  rw [h.N.way ha hb hab, h.v]
theorem CI.s {σ : MS} {A : AT} (h : CI σ A) : gI σ 36 1 = tDay (aS A) ∧ gI σ 36 2 = tBell (aS A) ∧ gI σ 36 3 = tHeld (aS A) ∧ gI σ 36 4 = tSick (aS A) ∧ gI σ 36 5 = tHad (aS A) ∧ shX (gL σ 36 6) = tShut (aS A) := by
  rw [← h.2.1.1]
  exact ⟨rfl, rfl, rfl, rfl, rfl, rfl⟩
theorem CI.sp {σ : MS} {A : AT} (h : CI σ A) {c : Int} (hc : 0 ≤ c ∧ c < 7) : gI σ 37 c = tSoup (aS A) c := by
  rw [← h.2.1.1]
  show _ = (if _ then _ else _)
  rw [if_pos hc]
