def isS (s : Nat) : Prop := 36 ≤ s ∧ s < 64 ∧ s % 2 = 0
theorem sp_has {v : Nat} {p : Int} {σ : MS} {Q : Int → Prop} (h1 : 0 ≤ p → p < gI σ v 5 → Q 1) (h0 : ¬ (0 ≤ p ∧ p < gI σ v 5) → Q 0) : wp_Valley_has v p σ Q := by
  unfold wp_Valley_has
  exact ⟨fun c => h0 (by omega), fun c => ⟨fun c2 => h0 (by omega), fun c2 => h1 (by omega) (by omega)⟩⟩
theorem sp_hasTwo {v : Nat} {a b : Int} {σ : MS} {Q : Int → Prop} (h1 : 0 ≤ a ∧ a < gI σ v 5 → 0 ≤ b ∧ b < gI σ v 5 → ¬ a = b → Q 1) (h0 : ¬ ((0 ≤ a ∧ a < gI σ v 5) ∧ (0 ≤ b ∧ b < gI σ v 5) ∧ ¬ a = b) → Q 0) : wp_Valley_hasTwo v a b σ Q := by
  unfold wp_Valley_hasTwo
  refine sp_has (fun a1 a2 => ⟨fun q => absurd q (by decide), fun _ => ?_⟩) (fun q => ⟨fun _ => h0 (fun z => q z.1), fun z => absurd rfl z⟩)
  refine sp_has (fun b1 b2 => ⟨fun q => absurd q (by decide), fun _ => ⟨fun c => h0 (fun z => z.2.2 c), fun c => h1 ⟨a1, a2⟩ ⟨b1, b2⟩ c⟩⟩) (fun q => ⟨fun _ => h0 (fun z => q z.2.1), fun z => absurd rfl z⟩)
theorem sp_copy {s o : Nat} {σ : MS} {Q : MS → Prop} (hs : isS s) (ho : isS o) (hso : s ≠ o)
    (h : ∀ σ', Fr [s, s + 1] σ σ' → stC σ' s = stC σ o → gL σ' s 6 = gL σ o 6 → Q σ') : wp_Standing_copy s o σ Q := by
  have d1 : s ≠ o + 1 := by unfold isS at *; omega
  have d2 : o ≠ s + 1 := by unfold isS at *; omega
  have d3 : s ≠ s + 1 := by omega
  unfold wp_Standing_copy
  intro s1 e1 s2 e2 s3 e3 s4 e4 s5 e5 s6 e6
  have ko : ∀ j, gI s6 o j = gI σ o j := fun j => by
    rw [e6, gI_sL, e5, gI_nk (Ne.symm hso), e4, gI_nk (Ne.symm hso), e3, gI_nk (Ne.symm hso), e2, gI_nk (Ne.symm hso), e1, gI_nk (Ne.symm hso)]
  have kp : ∀ k, k ≠ s → ∀ j, gI s6 k j = gI σ k j := fun k hk j => by
    rw [e6, gI_sL, e5, gI_nk hk, e4, gI_nk hk, e3, gI_nk hk, e2, gI_nk hk, e1, gI_nk hk]
  have kF : Fr [s, s + 1] σ s6 := by
    rw [e6, e5, e4, e3, e2, e1]
    exact (((((Fr.I (by simp) _ _).tr (Fr.I (by simp) _ _)).tr (Fr.I (by simp) _ _)).tr (Fr.I (by simp) _ _)).tr (Fr.I (by simp) _ _)).tr (Fr.L (by simp) _ _)
  have v1 : gI s6 s 1 = gI σ o 1 := by rw [e6, gI_sL, e5, gI_nj (by decide), e4, gI_nj (by decide), e3, gI_nj (by decide), e2, gI_nj (by decide), e1, gI_eq]
  have v2 : gI s6 s 2 = gI σ o 2 := by rw [e6, gI_sL, e5, gI_nj (by decide), e4, gI_nj (by decide), e3, gI_nj (by decide), e2, gI_eq, e1, gI_nk (Ne.symm hso)]
  have v3 : gI s6 s 3 = gI σ o 3 := by rw [e6, gI_sL, e5, gI_nj (by decide), e4, gI_nj (by decide), e3, gI_eq, e2, gI_nk (Ne.symm hso), e1, gI_nk (Ne.symm hso)]
  have v4 : gI s6 s 4 = gI σ o 4 := by rw [e6, gI_sL, e5, gI_nj (by decide), e4, gI_eq, e3, gI_nk (Ne.symm hso), e2, gI_nk (Ne.symm hso), e1, gI_nk (Ne.symm hso)]
  have v5 : gI s6 s 5 = gI σ o 5 := by rw [e6, gI_sL, e5, gI_eq, e4, gI_nk (Ne.symm hso), e3, gI_nk (Ne.symm hso), e2, gI_nk (Ne.symm hso), e1, gI_nk (Ne.symm hso)]
  have v6 : gL s6 s 6 = gL σ o 6 := by rw [e6, gL_eq, e5, e4, e3, e2, e1]; rfl
  clear e1 e2 e3 e4 e5 e6
  refine ⟨(fun x z => 0 ≤ x ∧ x ≤ 7 ∧ Fr [s, s + 1] σ z ∧ Fr [s + 1] s6 z ∧ ∀ j, 0 ≤ j → j < x → gI z (s + 1) j = gI σ (o + 1) j), (fun x _ => (7 - x).toNat), ⟨by omega, by omega, kF, Fr.rf, fun j j1 j2 => by omega⟩, ?_⟩
  rintro x1 s7 ⟨g0, g1, hF, hF6, hv⟩
  refine ⟨⟨by omega, by omega⟩, fun c => ?_, fun c => ⟨⟨g0, by omega⟩, ?_⟩⟩
  · have ns : s ∉ [s + 1] := by simp
    refine h s7 hF ?_ ((hF6.gL ns 6).trans v6)
    unfold stC
    rw [hF6.gI ns, hF6.gI ns, hF6.gI ns, hF6.gI ns, hF6.gI ns, hF6.gL ns, v1, v2, v3, v4, v5, v6]
    congr 1
    funext x
    by_cases hx : 0 ≤ x ∧ x < 7
    · rw [if_pos hx, if_pos hx]; exact hv x hx.1 (by omega)
    · rw [if_neg hx, if_neg hx]
  · intro s8 e8 x2 e2
    have hx : gI s7 (o + 1) x1 = gI σ (o + 1) x1 := by
      rw [hF6.gI (by simp; omega), kp _ (by omega)]
    subst e8
    refine ⟨⟨by omega, by omega, hF.tr (Fr.I (by simp) _ _), hF6.tr (Fr.I (by simp) _ _), fun j j1 j2 => ?_⟩, by dsimp only; omega⟩
    by_cases e : j = x1
    · rw [e, gI_eq, hx]
    · rw [gI_nj e]; exact hv j j1 (by omega)
theorem lshr_0 (k : Int) : lshr 0 k = 0 := by
  unfold lshr
  simp
theorem shX_0 : shX 0 = fun _ _ => false := by
  funext a b
  unfold shX shb
  rw [lshr_0]
  simp
theorem sp_begin {s : Nat} {b : Int} {σ : MS} {Q : MS → Prop} (h : ∀ σ', Fr [s, s + 1] σ σ' → stC σ' s = mkS 0 b 0 0 (ishl 1 b) (fun _ _ => false) (fun _ => 0) → gL σ' s 6 = 0 → Q σ') : wp_Standing_begin s b σ Q := by
  unfold wp_Standing_begin
  intro s1 e1 s2 e2 s3 e3 s4 e4 s5 e5 s6 e6
  have kF : Fr [s, s + 1] σ s6 := by
    rw [e6, e5, e4, e3, e2, e1]
    exact (((((Fr.I (by simp) _ _).tr (Fr.I (by simp) _ _)).tr (Fr.I (by simp) _ _)).tr (Fr.I (by simp) _ _)).tr (Fr.I (by simp) _ _)).tr (Fr.L (by simp) _ _)
  have v1 : gI s6 s 1 = 0 := by rw [e6, gI_sL, e5, gI_nj (by decide), e4, gI_nj (by decide), e3, gI_nj (by decide), e2, gI_nj (by decide), e1, gI_eq]
  have v2 : gI s6 s 2 = b := by rw [e6, gI_sL, e5, gI_nj (by decide), e4, gI_nj (by decide), e3, gI_nj (by decide), e2, gI_eq]
  have v3 : gI s6 s 3 = 0 := by rw [e6, gI_sL, e5, gI_nj (by decide), e4, gI_nj (by decide), e3, gI_eq]
  have v4 : gI s6 s 4 = 0 := by rw [e6, gI_sL, e5, gI_nj (by decide), e4, gI_eq]
  have v5 : gI s6 s 5 = ishl 1 b := by rw [e6, gI_sL, e5, gI_eq]
  have v6 : gL s6 s 6 = 0 := by rw [e6, gL_eq]
  clear e1 e2 e3 e4 e5 e6
  refine ⟨(fun x z => 0 ≤ x ∧ x ≤ 7 ∧ Fr [s, s + 1] σ z ∧ Fr [s + 1] s6 z ∧ ∀ j, 0 ≤ j → j < x → gI z (s + 1) j = 0), (fun x _ => (7 - x).toNat), ⟨by omega, by omega, kF, Fr.rf, fun j j1 j2 => by omega⟩, ?_⟩
  rintro x1 s7 ⟨g0, g1, hF, hF6, hv⟩
  refine ⟨⟨by omega, by omega⟩, fun c => ?_, fun c => ⟨⟨g0, by omega⟩, ?_⟩⟩
  · have ns : s ∉ [s + 1] := by simp
    refine h s7 hF ?_ ((hF6.gL ns 6).trans v6)
    unfold stC
    rw [hF6.gI ns, hF6.gI ns, hF6.gI ns, hF6.gI ns, hF6.gI ns, hF6.gL ns, v1, v2, v3, v4, v5, v6, shX_0]
    congr 1
    funext x
    by_cases hx : 0 ≤ x ∧ x < 7
    · rw [if_pos hx]; exact hv x hx.1 (by omega)
    · rw [if_neg hx]
  · intro s8 e8 x2 e2
    subst e8
    refine ⟨⟨by omega, by omega, hF.tr (Fr.I (by simp) _ _), hF6.tr (Fr.I (by simp) _ _), fun j j1 j2 => ?_⟩, by dsimp only; omega⟩
    by_cases e : j = x1
    · rw [e, gI_eq]
    · rw [gI_nj e]; exact hv j j1 (by omega)
theorem sp_settle {v : Nat} {σ : MS} {V : VT} {Q : MS → Prop} (hv : v = 1 ∨ v = 7) (hV : vC σ v = V) (hW : WFV V) (h : ∀ σ', Fr [17, 19] σ σ' → (∀ j, gI σ' 17 j = gI σ 17 j) → NI σ' V → gR σ' 17 2 = v → Q σ') : wp_Noon_settle v σ Q := by
  unfold wp_Noon_settle
  intro s1 e1
  refine ⟨(fun x z => 0 ≤ x ∧ x ≤ 28 ∧ Fr [17, 19] σ z ∧ (∀ j, gI z 17 j = gI σ 17 j) ∧ gR z 17 2 = v ∧ ∀ d, 0 ≤ d → d < x → gL z 19 d = -1), (fun x _ => (28 - x).toNat), ⟨by omega, by omega, by rw [e1]; exact Fr.R (by decide) _ _, fun j => by rw [e1]; rfl, by rw [e1, gR_eq], fun d d1 d2 => by omega⟩, ?_⟩
  rintro x1 s2 ⟨g0, g1, hF, hI, hR, hL⟩
  refine ⟨⟨by omega, by omega⟩, fun c => ?_, fun c => ⟨⟨g0, by omega⟩, ?_⟩⟩
  · refine h s2 hF hI ⟨by rw [hR]; exact hv, ?_, hW, fun d d1 d2 => Or.inl (hL d d1 (by omega))⟩ hR
    rw [hR, vC_Fr hv hF (by decide)]
    exact hV
  · intro s3 e3 x2 e2
    subst e3
    refine ⟨⟨by omega, by omega, hF.tr (Fr.L (by decide) _ _), hI, hR, fun d d1 d2 => ?_⟩, by dsimp only; omega⟩
    by_cases e : d = x1
    · rw [e, gL_eq]
    · rw [gL_nj e]; exact hL d d1 (by omega)
theorem sp_farOn {σ : MS} {V : VT} {d : Int} {x : Int64} {a b : Int} {Q : Int → MS → Prop} (hN : NI σ V) (hd : 0 ≤ d ∧ d < 2147483648) (hx : ¬ x = -1) (ha : 0 ≤ a ∧ a < vN V) (hb : 0 ≤ b ∧ b < vN V)
    (h : ∀ σ', Fr [18, 19] σ σ' → NI σ' V → Q (if 1000000 ≤ dst V (d % 28) (shX x) a b then -4 else dst V (d % 28) (shX x) a b) σ') : wp_Noon_farOn d x a b σ Q := by
  have h7 := hN.2.2.1.2.1
  unfold wp_Noon_farOn
  refine sp_readyFars hN hd hx (fun s1 hF hN1 hf => ?_)
  rw [hf a b ha.1 ha.2 hb.1 hb.2]
  refine ⟨⟨by omega, by omega⟩, fun c => ?_, fun c => ?_⟩
  · have := h s1 hF hN1; rw [if_pos c] at this; exact this
  · have := h s1 hF hN1; rw [if_neg c] at this; exact this
