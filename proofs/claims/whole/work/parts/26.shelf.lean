/-! ===== the class's shelves ===== -/
def uks : List Nat := [21, 22, 40, 41, 42, 43, 44, 45, 46, 47, 48, 49, 50, 51, 52, 53, 54, 55]
theorem uks_ {k : Nat} (h : k ∈ uks) : k = 21 ∨ k = 22 ∨ (40 ≤ k ∧ k < 56) := by
  unfold uks at h
  simp at h
  omega
theorem uks_i {k : Nat} (h : k = 21 ∨ k = 22 ∨ (40 ≤ k ∧ k < 56)) : k ∈ uks := by
  unfold uks
  simp
  omega
theorem Fr.tr' {ks ls : List Nat} {a b c : MS} (h1 : Fr ks a b) (h2 : Fr ls b c) : Fr (ks ++ ls) a c :=
  (h1.mono (fun _ h => List.mem_append.2 (Or.inl h))).tr (h2.mono (fun _ h => List.mem_append.2 (Or.inr h)))
theorem isS36 : isS 36 := by unfold isS; omega
theorem isS38 : isS 38 := by unfold isS; omega
/-- what lies on the shelf of what can be undone -/
def UH (σ : MS) (n : Int) (f : Int → ST) : Prop := gI σ 21 1 = n ∧ rowsOK σ ∧ ∀ i, 0 ≤ i → i < n → stC σ (gR σ 22 i) = f i ∧ shOK (gL σ (gR σ 22 i) 6)
theorem sp_put21 {σ : MS} {n : Int} {f : Int → ST} {Q : Int → MS → Prop} (hn : 0 ≤ n ∧ n < 8) (hU : UH σ n f) (hs : shOK (gL σ 36 6))
    (h : ∀ σ', Fr uks σ σ' → UH σ' (n + 1) (fun i => if i = n then stC σ 36 else f i) → Q 1 σ') : wp_Shelf_put21 36 σ Q := by
  obtain ⟨h1, h2, h3⟩ := hU
  obtain ⟨r1, r2, r3⟩ := h2.1 n hn.1 hn.2
  unfold wp_Shelf_put21
  rw [h1]
  refine ⟨fun c => by omega, fun _ => ⟨fun _ => ⟨hn, ?_⟩, fun c => by omega⟩⟩
  have r1' := r1
  unfold isS at r1'
  refine sp_copy r1 isS36 (by omega) (fun s1 hF hS hL => ?_)
  have n21 : 21 ∉ [gR σ 22 n, gR σ 22 n + 1] := by simp; omega
  have n22 : 22 ∉ [gR σ 22 n, gR σ 22 n + 1] := by simp; omega
  rw [hF.gI n21, h1]
  refine ⟨⟨by omega, by omega⟩, ?_⟩
  intro s2 e2
  have hF2 : Fr [21] s1 s2 := by rw [e2]; exact Fr.I (by decide) _ _
  have e22 : ∀ i, gR s2 22 i = gR σ 22 i := fun i => by rw [hF2.gR (by decide), hF.gR n22]
  refine h s2 ?_ ⟨by rw [e2, gI_eq], ⟨fun i i1 i2 => by rw [e22]; exact h2.1 i i1 i2, fun i j i1 i2 j1 j2 => by rw [e22, e22]; exact h2.2 i j i1 i2 j1 j2⟩, fun i i1 i2 => ?_⟩
  · refine (hF.mono (fun k hk => uks_i ?_)).tr (hF2.mono (by decide))
    simp at hk
    omega
  · rw [e22]
    have q := (h2.1 i i1 (by omega))
    have qs := q.1
    unfold isS at qs
    have a1 : gR σ 22 i ∉ [21] := by simp; omega
    have a2 : gR σ 22 i + 1 ∉ [21] := by simp; omega
    rw [stC_Fr hF2 ⟨a1, a2⟩, hF2.gL a1]
    dsimp only
    by_cases e : i = n
    · subst e
      rw [if_pos rfl, hS, hL]
      exact ⟨rfl, hs⟩
    · rw [if_neg e]
      have d : gR σ 22 i ≠ gR σ 22 n := fun z => e (h2.2 i n i1 (by omega) hn.1 hn.2 z)
      have b1 : gR σ 22 i ∉ [gR σ 22 n, gR σ 22 n + 1] := by simp; omega
      have b2 : gR σ 22 i + 1 ∉ [gR σ 22 n, gR σ 22 n + 1] := by simp; omega
      rw [stC_Fr hF ⟨b1, b2⟩, hF.gL b1]
      exact h3 i i1 (by omega)
theorem CU.H {σ : MS} {A : AT} (h : CU σ A) : UH σ (aUn A) (aUf A) := h.2
/-- the class but the shelf of what can be undone -/
def CI' (σ : MS) (A : AT) : Prop := CV σ A ∧ CS σ A ∧ CK σ A ∧ CQ σ A ∧ CN σ A ∧ CT σ A
theorem CI'.fr {σ σ' : MS} {A : AT} (h : CI' σ A) (hF : Fr uks σ σ') : CI' σ' A := by
  obtain ⟨h1, h2, h4, h5, h6, h7⟩ := h
  have k : ∀ k ∈ uks, k = 21 ∨ k = 22 ∨ (40 ≤ k ∧ k < 56) := fun k hk => uks_ hk
  exact ⟨h1.fr hF (fun q hq => by have := k q hq; omega), h2.fr hF (fun q hq => by have := k q hq; omega), h4.fr hF (fun q hq => by have := k q hq; omega), h5.fr hF (fun q hq => by have := k q hq; omega), h6.fr hF (fun q hq => by have := k q hq; omega), h7.fr hF (fun q hq => by have := k q hq; omega)⟩
theorem aV_push (A : AT) : aV (push A) = aV A := by unfold push; split <;> rfl
theorem aS_push (A : AT) : aS (push A) = aS A := by unfold push; split <;> rfl
theorem CI'.push {σ : MS} {A : AT} (h : CI' σ A) {n : Int} {f : Int → ST} (hn : 0 ≤ n ∧ n ≤ 8) (hU : UH σ n f) : CI σ (wU A n f) := by
  obtain ⟨h1, h2, h4, h5, h6, h7⟩ := h
  exact ⟨h1, h2, ⟨hn, hU⟩, h4, h5, h6, h7⟩
theorem CI.un {σ : MS} {A : AT} (h : CI σ A) : CI' σ A := ⟨h.1, h.2.1, h.2.2.2.1, h.2.2.2.2.1, h.2.2.2.2.2.1, h.2.2.2.2.2.2⟩
theorem sp_push {σ : MS} {A : AT} {Q : MS → Prop} (hC : CI σ A) (h : ∀ σ', CI σ' (push A) → Q σ') : wp_Shelf_putDroppingOldest21 36 σ Q := by
  obtain ⟨hn, h1, h2, h3⟩ := hC.2.2.1
  have hS := hC.2.1
  unfold wp_Shelf_putDroppingOldest21
  unfold push at h
  refine ⟨fun c => ?_, fun c => ?_⟩
  · rw [if_pos (by omega)] at h
    refine sp_put21 (n := aUn A) (f := aUf A) ⟨hn.1, by omega⟩ ⟨h1, h2, h3⟩ hS.2 (fun σ' hF hU => h σ' ?_)
    rw [hS.1] at hU
    exact (hC.un.fr hF).push (by omega) hU
  · have h8 : aUn A = 8 := by omega
    rw [if_neg (by omega)] at h
    refine ⟨(fun x s => 1 ≤ x ∧ x ≤ 8 ∧ Fr [22] σ s ∧ ∀ j, 0 ≤ j → j < 8 → gR s 22 j = if j + 1 < x then gR σ 22 (j + 1) else gR σ 22 j), (fun x _ => (8 - x).toNat), ⟨by omega, by omega, Fr.rf, fun j j1 j2 => by rw [if_neg (by omega)]⟩, ?_⟩
    rintro x1 s2 ⟨g0, g1, hF, hr⟩
    refine ⟨⟨by omega, by omega⟩, fun c1 => ?_, fun c1 => ⟨⟨by omega, by omega⟩, ⟨by omega, by omega⟩, ?_⟩⟩
    · have hx : x1 = 8 := by omega
      subst hx
      intro s3 e3 s4 e4
      have e22 : ∀ j, 0 ≤ j → j < 8 → gR s4 22 j = if j = 7 then gR σ 22 0 else gR σ 22 (j + 1) := by
        intro j j1 j2
        rw [e4, gR_sI, e3]
        by_cases e : j = 7
        · subst e
          rw [if_pos rfl, show (8 : Int) - 1 = 7 by omega, gR_eq]
        · rw [if_neg e, gR_nj (by omega), hr j j1 j2, if_pos (by omega)]
      have hF4 : Fr [21, 22] σ s4 := by
        rw [e4, e3]
        exact ((hF.mono (by decide)).tr (Fr.R (by decide) _ _)).tr (Fr.I (by decide) _ _)
      have hU : UH s4 7 (fun i => aUf A (i + 1)) := by
        refine ⟨by rw [e4, gI_eq]; rfl, ⟨fun i i1 i2 => ?_, fun i j i1 i2 j1 j2 => ?_⟩, fun i i1 i2 => ?_⟩
        · rw [e22 i i1 i2]
          split
          · exact h2.1 0 (by omega) (by omega)
          · exact h2.1 (i + 1) (by omega) (by omega)
        · rw [e22 i i1 i2, e22 j j1 j2]
          intro z
          split at z <;> split at z
          · omega
          · have := h2.2 _ _ (by omega) (by omega) (by omega) (by omega) z; omega
          · have := h2.2 _ _ (by omega) (by omega) (by omega) (by omega) z; omega
          · have := h2.2 _ _ (by omega) (by omega) (by omega) (by omega) z; omega
        · rw [e22 i i1 (by omega), if_neg (by omega)]
          have q := (h2.1 (i + 1) (by omega) (by omega))
          have a1 : gR σ 22 (i + 1) ∉ [21, 22] := by simp; omega
          have a2 : gR σ 22 (i + 1) + 1 ∉ [21, 22] := by simp; omega
          rw [stC_Fr hF4 ⟨a1, a2⟩, hF4.gL a1]
          exact h3 (i + 1) (by omega) (by omega)
      have hC4 : CI' s4 A := hC.un.fr (hF4.mono (by decide))
      refine sp_put21 (n := 7) ⟨by omega, by omega⟩ hU hC4.2.1.2 (fun σ' hF' hU' => h σ' ?_)
      rw [hC4.2.1.1] at hU'
      exact (hC4.fr hF').push (by omega) hU'
    · intro s6 e6 x2 e2
      subst e6
      refine ⟨⟨by omega, by omega, hF.tr (Fr.R (by decide) _ _), fun j j1 j2 => ?_⟩, by dsimp only; omega⟩
      by_cases e : j = x1 - 1
      · rw [e, gR_eq, hr x1 (by omega) (by omega), if_neg (by omega), if_pos (by omega), show x1 - 1 + 1 = x1 by omega]
      · rw [gR_nj e, hr j j1 j2]
        by_cases q : j + 1 < x1
        · rw [if_pos q, if_pos (by omega)]
        · rw [if_neg q, if_neg (by omega)]
/-- a standing of now taken from a cell -/
theorem CS.of {σ σ' : MS} {A : AT} {o : Nat} {s : ST} (hS : stC σ' 36 = stC σ o) (hL : gL σ' 36 6 = gL σ o 6) (e : stC σ o = s) (ho : shOK (gL σ o 6)) : CS σ' (wS A s) :=
  ⟨hS.trans e, by rw [hL]; exact ho⟩
theorem sp_B_undo {σ : MS} {A : AT} {Q : Int → MS → Prop} (hC : CI σ A) (h : ∀ σ', CI σ' (nUndo A) → Q (fUndo A) σ') : wp_B_undo σ Q := by
  obtain ⟨hn, h1, h2, h3⟩ := hC.2.2.1
  unfold wp_B_undo wp_Shelf_takeInto21
  unfold nUndo fUndo at h
  rw [h1]
  refine ⟨fun c => ⟨fun _ => ?_, fun q => absurd rfl q⟩, fun c => ⟨fun _ => ⟨⟨by omega, by omega⟩, ?_⟩, fun q => by omega⟩⟩
  · rw [if_pos (by omega), if_pos (by omega)] at h
    exact h σ hC
  · rw [if_neg (by omega), if_neg (by omega)] at h
    intro s1 e1
    have g21 : gI s1 21 1 = aUn A - 1 := by rw [e1, gI_eq]
    have hF1 : Fr [21] σ s1 := by rw [e1]; exact Fr.I (by decide) _ _
    rw [g21, hF1.gR (by decide)]
    refine ⟨⟨by omega, by omega⟩, ?_⟩
    obtain ⟨r1, r2, r3⟩ := h2.1 (aUn A - 1) (by omega) (by omega)
    refine sp_copy isS36 r1 (by omega) (fun s2 hF hS hL => ⟨fun q => absurd q (by decide), fun _ => ?_⟩)
    have e2 : gI s2 21 1 = aUn A - 1 := by rw [hF.gI (by decide), g21]
    rw [e2]
    refine h s2 ?_
    obtain ⟨k1, k2⟩ := h3 (aUn A - 1) (by omega) (by omega)
    have a1 : gR σ 22 (aUn A - 1) ∉ [21] := by simp; omega
    have a2 : gR σ 22 (aUn A - 1) + 1 ∉ [21] := by simp; omega
    rw [stC_Fr hF1 ⟨a1, a2⟩] at hS
    rw [hF1.gL a1] at hL
    obtain ⟨c1, c2, c3, c4, c5, c6, c7⟩ := hC
    have hFF := hF1.tr' hF
    refine ⟨c1.fr hFF (by decide), ⟨hS.trans k1, by rw [hL]; exact k2⟩, ⟨⟨?_, ?_⟩, e2, ?_, ?_⟩, c4.fr hFF (by decide), c5.fr hFF (by decide), c6.fr hFF (by decide), c7.fr hFF (by decide)⟩
    · show 0 ≤ aUn A - 1; omega
    · show aUn A - 1 ≤ 8; omega
    · have e22 := hFF.gR (k := 22) (by decide)
      exact ⟨fun i i1 i2 => by rw [e22]; exact h2.1 i i1 i2, fun i j i1 i2 j1 j2 => by rw [e22, e22]; exact h2.2 i j i1 i2 j1 j2⟩
    · intro i i1 i2
      have i3 : i < aUn A - 1 := i2
      obtain ⟨q1, q2, q3⟩ := h2.1 i i1 (by omega)
      unfold isS at q1
      have a1 : gR σ 22 i ∉ [21] ++ [36, 36 + 1] := by simp; omega
      have a2 : gR σ 22 i + 1 ∉ [21] ++ [36, 36 + 1] := by simp; omega
      rw [hFF.gR (by decide), stC_Fr hFF ⟨a1, a2⟩, hFF.gL a1]
      exact h3 i i1 (by omega)
theorem sp_put23 {σ : MS} {A : AT} {Q : Int → MS → Prop} (hC : CI σ A) (hn : aKn A < 2) (h : ∀ σ', CI σ' (wK A (aKn A + 1) (fun i => if i = aKn A then aS A else aKf A i)) → Q 1 σ') : wp_Shelf_put23 36 σ Q := by
  obtain ⟨hk, h1, h2, h3⟩ := id hC.2.2.2.1
  have hs := hC.2.1
  unfold wp_Shelf_put23
  rw [h1]
  refine ⟨fun c => by omega, fun _ => ⟨fun _ => ⟨⟨hk.1, hn⟩, ?_⟩, fun c => by omega⟩⟩
  have r2 : ∀ i, 0 ≤ i → i < 2 → gR σ 24 i = 56 + 2 * i.toNat := by
    intro i i1 i2
    have : i = 0 ∨ i = 1 := by omega
    rcases this with rfl | rfl
    · exact h2.1
    · exact h2.2
  have r1 : isS (gR σ 24 (aKn A)) := by rw [r2 _ hk.1 hn]; unfold isS; omega
  have r3 := r2 _ hk.1 hn
  refine sp_copy r1 isS36 (by omega) (fun s1 hF hS hL => ?_)
  have n23 : 23 ∉ [gR σ 24 (aKn A), gR σ 24 (aKn A) + 1] := by simp; omega
  have n24 : 24 ∉ [gR σ 24 (aKn A), gR σ 24 (aKn A) + 1] := by simp; omega
  rw [hF.gI n23, h1]
  refine ⟨⟨by omega, by omega⟩, ?_⟩
  intro s2 e2
  have hF2 : Fr [23] s1 s2 := by rw [e2]; exact Fr.I (by decide) _ _
  have e24 : ∀ i, gR s2 24 i = gR σ 24 i := fun i => by rw [hF2.gR (by decide), hF.gR n24]
  have hFF : Fr [23, 56, 57, 58, 59] σ s2 := by
    refine (hF.mono (fun k hk' => ?_)).tr (hF2.mono (by decide))
    simp at hk' ⊢
    omega
  obtain ⟨c1, c2, c3, c4, c5, c6, c7⟩ := hC
  refine h s2 ⟨c1.fr hFF (by decide), c2.fr hFF (by decide), c3.fr hFF (by decide), ⟨⟨?_, ?_⟩, by rw [e2, gI_eq]; rfl, ⟨by rw [e24]; exact h2.1, by rw [e24]; exact h2.2⟩, ?_⟩, c5.fr hFF (by decide), c6.fr hFF (by decide), c7.fr hFF (by decide)⟩
  · show 0 ≤ aKn A + 1; omega
  · show aKn A + 1 ≤ 2; omega
  · intro i i1 i2
    have i3 : i < aKn A + 1 := i2
    have ri := r2 i i1 (by omega)
    rw [e24]
    have a1 : gR σ 24 i ∉ [23] := by simp; omega
    have a2 : gR σ 24 i + 1 ∉ [23] := by simp; omega
    rw [stC_Fr hF2 ⟨a1, a2⟩, hF2.gL a1]
    show _ = (if i = aKn A then aS A else aKf A i) ∧ _
    by_cases e : i = aKn A
    · rw [if_pos e, e, hS, hL]
      exact hs
    · rw [if_neg e]
      have b1 : gR σ 24 i ∉ [gR σ 24 (aKn A), gR σ 24 (aKn A) + 1] := by simp; omega
      have b2 : gR σ 24 i + 1 ∉ [gR σ 24 (aKn A), gR σ 24 (aKn A) + 1] := by simp; omega
      rw [stC_Fr hF ⟨b1, b2⟩, hF.gL b1]
      exact h3 i i1 (by omega)
theorem sp_B_keep {σ : MS} {A : AT} {Q : Int → MS → Prop} (hC : CI σ A) (h : ∀ σ', CI σ' (nKeep A) → Q (fKeep A) σ') : wp_B_keep σ Q := by
  unfold wp_B_keep
  unfold nKeep fKeep at h
  obtain ⟨hk, h1, -⟩ := id hC.2.2.2.1
  by_cases c : aKn A = 2
  · rw [if_pos c, if_pos c] at h
    unfold wp_Shelf_put23
    rw [h1]
    exact ⟨fun q => by omega, fun _ => ⟨fun q => by omega, fun _ => ⟨fun _ => h σ hC, fun q => absurd rfl q⟩⟩⟩
  · rw [if_neg c, if_neg c] at h
    refine sp_put23 hC (by omega) (fun σ' hC' => ⟨fun q => absurd q (by decide), fun _ => ?_⟩)
    have e := hC'.2.2.2.1.2.1
    rw [e]
    exact h σ' hC'
theorem sp_B_back {σ : MS} {A : AT} {Q : Int → MS → Prop} (hC : CI σ A) (h : ∀ σ', CI σ' (nBack A) → Q (fBack A) σ') : wp_B_back σ Q := by
  obtain ⟨hn, h1, h2, h3⟩ := hC.2.2.2.1
  unfold wp_B_back wp_Shelf_takeInto23
  unfold nBack fBack at h
  rw [h1]
  refine ⟨fun c => ⟨fun q => absurd rfl q, fun _ => ?_⟩, fun c => ⟨fun _ => ⟨⟨by omega, by omega⟩, ?_⟩, fun q => by omega⟩⟩
  · rw [if_pos (by omega), if_pos (by omega)] at h
    exact h σ hC
  · rw [if_neg (by omega), if_neg (by omega)] at h
    intro s1 e1
    have g23 : gI s1 23 1 = aKn A - 1 := by rw [e1, gI_eq]
    have hF1 : Fr [23] σ s1 := by rw [e1]; exact Fr.I (by decide) _ _
    rw [g23, hF1.gR (by decide)]
    refine ⟨⟨by omega, by omega⟩, ?_⟩
    have r2 : ∀ i, 0 ≤ i → i < 2 → gR σ 24 i = 56 + 2 * i.toNat := by
      intro i i1 i2
      have : i = 0 ∨ i = 1 := by omega
      rcases this with rfl | rfl
      · exact h2.1
      · exact h2.2
    have r3 := r2 (aKn A - 1) (by omega) (by omega)
    have r1 : isS (gR σ 24 (aKn A - 1)) := by unfold isS; omega
    refine sp_copy isS36 r1 (by omega) (fun s2 hF hS hL => ⟨fun _ => ?_, fun q => absurd q (by decide)⟩)
    intro s3 e3
    have hF3 : Fr [21] s2 s3 := by rw [e3]; exact Fr.I (by decide) _ _
    have e2 : gI s3 23 1 = aKn A - 1 := by rw [hF3.gI (by decide), hF.gI (by decide), g23]
    rw [e2]
    refine h s3 ?_
    obtain ⟨k1, k2⟩ := h3 (aKn A - 1) (by omega) (by omega)
    have a1 : gR σ 24 (aKn A - 1) ∉ [23] := by simp; omega
    have a2 : gR σ 24 (aKn A - 1) + 1 ∉ [23] := by simp; omega
    rw [stC_Fr hF1 ⟨a1, a2⟩, ← stC_Fr hF3 (by decide)] at hS
    rw [hF1.gL a1, ← hF3.gL (by decide)] at hL
    obtain ⟨c1, c2, c3, c4, c5, c6, c7⟩ := hC
    have hFF := (hF1.tr' hF).tr' hF3
    refine ⟨c1.fr hFF (by decide), ⟨hS.trans k1, by rw [hL]; exact k2⟩, ⟨⟨?_, ?_⟩, by rw [e3, gI_eq]; rfl, ?_, ?_⟩, ⟨⟨?_, ?_⟩, e2, ?_, ?_⟩, c5.fr hFF (by decide), c6.fr hFF (by decide), c7.fr hFF (by decide)⟩
    · show (0 : Int) ≤ 0; omega
    · show (0 : Int) ≤ 8; omega
    · have e22 := hFF.gR (k := 22) (by decide)
      have h2 := c3.2.2.1
      exact ⟨fun i i1 i2 => by rw [e22]; exact h2.1 i i1 i2, fun i j i1 i2 j1 j2 => by rw [e22, e22]; exact h2.2 i j i1 i2 j1 j2⟩
    · intro i i1 i2
      have i3 : i < 0 := i2
      omega
    · show 0 ≤ aKn A - 1; omega
    · show aKn A - 1 ≤ 2; omega
    · rw [hFF.gR (by decide), hFF.gR (by decide)]
      exact h2
    · intro i i1 i2
      have i3 : i < aKn A - 1 := i2
      have q := r2 i i1 (by omega)
      have a1 : gR σ 24 i ∉ ([23] ++ [36, 36 + 1]) ++ [21] := by simp; omega
      have a2 : gR σ 24 i + 1 ∉ ([23] ++ [36, 36 + 1]) ++ [21] := by simp; omega
      rw [hFF.gR (by decide), stC_Fr hFF ⟨a1, a2⟩, hFF.gL a1]
      exact h3 i i1 (by omega)
