/-! ===== the class's reader ===== -/
def TH (σ : MS) (n : Int) (f : Int → Int) : Prop := gI σ 13 1 = n ∧ (0 ≤ n ∧ n ≤ 200) ∧ ∀ i, 0 ≤ i → i < n → gI σ 14 i = f i ∧ 32 ≤ f i ∧ f i ≤ 126
theorem TH.fr {σ σ' : MS} {n : Int} {f : Int → Int} {ks : List Nat} (h : TH σ n f) (hF : Fr ks σ σ') (hk : ∀ k ∈ ks, ¬ k = 13 ∧ ¬ k = 14) : TH σ' n f := by
  unfold TH
  rw [hF.gI (fun q => (hk _ q).1 rfl)]
  refine ⟨h.1, h.2.1, fun i i1 i2 => ?_⟩
  rw [hF.gI (fun q => (hk _ q).2 rfl)]
  exact h.2.2 i i1 i2
theorem sp_at {σ : MS} {n p : Int} {f : Int → Int} {Q : Int → Prop} (hT : TH σ n f) (h : Q (ltr n f p)) : wp_Text_at p σ Q := by
  obtain ⟨h1, h2, h3⟩ := hT
  unfold wp_Text_at
  unfold ltr at h
  rw [h1]
  refine ⟨fun c => ?_, fun c => ⟨fun c2 => ?_, fun c2 => ?_⟩⟩
  · rw [if_neg (by omega)] at h; exact h
  · rw [if_neg (by omega)] at h; exact h
  · rw [if_pos (by omega)] at h
    have q := h3 p (by omega) (by omega)
    rw [q.1]
    exact ⟨by omega, by omega, h⟩
theorem ltr_in {σ : MS} {n : Int} {f : Int → Int} (hT : TH σ n f) (p : Int) : 32 ≤ ltr n f p ∧ ltr n f p ≤ 126 := by
  unfold ltr
  split
  · rename_i c; exact (hT.2.2 p c.1 c.2).2
  · omega
theorem sp_fig {x : Int} {Q : Int → Prop} (h1 : fig x → Q 1) (h0 : ¬ fig x → Q 0) : wp_Reader_isFigure x Q := by
  unfold wp_Reader_isFigure
  exact ⟨fun c => h0 (by unfold fig; omega), fun c => ⟨fun c2 => h0 (by unfold fig; omega), fun c2 => h1 (by unfold fig; omega)⟩⟩
theorem sp_readNumbers {σ : MS} {n p : Int} {f : Int → Int} {m : Nat} {Q : Int → MS → Prop} (hT : TH σ n f) (hm : m ≤ 4) (hp : gI σ 15 1 = p) (hp2 : 0 ≤ p ∧ p ≤ 1000)
    (hz : m = 0 → Q 0 σ) (h0 : ¬ m = 0 → nums (ltr n f) m m (p + 1) (fun _ => 0) = none → ∀ σ', Fr [15, 16] σ σ' → Q 0 σ')
    (h1 : ¬ m = 0 → ∀ t q, nums (ltr n f) m m (p + 1) (fun _ => 0) = some (t, q) → ∀ σ', Fr [15, 16] σ σ' → gI σ' 15 1 = q → q ≤ p + 13 → (∀ i : Int, 0 ≤ i → i < m → gI σ' 16 i = t i) → Q 1 σ') : wp_Reader_readNumbers m σ Q := by
  unfold wp_Reader_readNumbers
  rw [hp]
  refine ⟨fun c => hz (by omega), fun c => ⟨fun c2 => ⟨⟨by omega, by omega⟩, ?_⟩, fun c2 => by omega⟩⟩
  have h0 := h0 (by omega)
  have h1 := h1 (by omega)
  clear hz
  generalize hR : nums (ltr n f) m m (p + 1) (fun _ => 0) = R at h0 h1
  intro s1 e1
  refine ⟨(fun x s => 0 ≤ x ∧ x ≤ m ∧ Fr [15, 16] σ s ∧ ∃ t p', gI s 15 1 = p' ∧ (p + 1 ≤ p' ∧ p' ≤ p + 1 + 3 * x) ∧ (∀ i, 0 ≤ i → i < x → gI s 16 i = t i) ∧ nums (ltr n f) m (m - x).toNat p' t = R), (fun x _ => (m - x).toNat), ⟨by omega, by omega, by rw [e1]; exact Fr.I (by decide) _ _, fun _ => 0, p + 1, by rw [e1, gI_eq], ⟨by omega, by omega⟩, fun i i1 i2 => by omega, by rw [← hR]; congr 1⟩, ?_⟩
  rintro x1 s2 ⟨g0, g1, hF, t, p', ep, ⟨b1, b2⟩, ht, hn⟩
  refine ⟨⟨by omega, by omega⟩, fun c1 => ?_, fun c1 => ?_⟩
  · rw [show ((m : Int) - x1).toNat = 0 by omega] at hn
    exact h1 t p' hn.symm s2 hF ep (by omega) (fun i i1 i2 => ht i i1 (by omega))
  · have hT2 := hT.fr hF (by decide)
    have ej : ((m : Int) - x1).toNat = ((m : Int) - x1 - 1).toNat + 1 := by omega
    rw [ej] at hn
    unfold nums num at hn
    rw [ep]
    have eT : (if ((m : Int) - x1 - 1).toNat = 0 then (59 : Int) else 44) = if x1 = (m : Int) - 1 then 59 else 44 := by
      by_cases e : x1 = (m : Int) - 1
      · rw [if_pos (by omega), if_pos e]
      · rw [if_neg (by omega), if_neg e]
    rw [eT] at hn
    refine sp_at hT2 (sp_fig (fun hf => ⟨fun _ => sp_at hT2 ⟨⟨by omega, by omega⟩, by unfold fig at hf; exact ⟨by omega, by omega⟩, ?_⟩, fun q => absurd q (by decide)⟩) (fun hf => ⟨fun q => absurd rfl q, fun _ => ?_⟩))
    · rw [if_pos hf] at hn
      intro s3 e3
      have g3 : gI s3 15 1 = p' := by rw [e3, gI_nk (by decide), ep]
      rw [g3]
      refine ⟨⟨by omega, by omega⟩, ?_⟩
      intro s4 e4
      have g4 : gI s4 15 1 = p' + 1 := by rw [e4, gI_eq]
      have v4 : gI s4 16 x1 = ltr n f p' - 48 := by rw [e4, gI_nk (by decide), e3, gI_eq]
      have o4 : ∀ i, ¬ i = x1 → gI s4 16 i = gI s2 16 i := fun i hi => by rw [e4, gI_nk (by decide), e3, gI_nj hi]
      have hF4 : Fr [15, 16] σ s4 := by
        rw [e4, e3]
        exact (hF.tr (Fr.I (by decide) _ _)).tr (Fr.I (by decide) _ _)
      have hT4 := hT.fr hF4 (by decide)
      clear e3 e4
      rw [g4]
      refine sp_at hT4 (sp_fig (fun hg => ⟨fun q => absurd q (by decide), fun _ => sp_at hT4 ?_⟩) (fun hg => ⟨fun _ => sp_at hT4 ?_, fun q => absurd rfl q⟩))
      · rw [if_pos hg] at hn
        rw [v4]
        have hf' := hf
        have hg' := hg
        unfold fig at hf' hg'
        refine ⟨⟨by omega, by omega⟩, ?_⟩
        intro s5 e5
        have g5 : gI s5 15 1 = p' + 1 := by rw [e5, gI_nk (by decide), g4]
        rw [g5]
        refine ⟨⟨by omega, by omega⟩, ?_⟩
        intro s6 e6
        have g6 : gI s6 15 1 = p' + 2 := by rw [e6, gI_eq]; omega
        have v6 : gI s6 16 x1 = 10 * (ltr n f p' - 48) + (ltr n f (p' + 1) - 48) := by rw [e6, gI_nk (by decide), e5, gI_eq]; omega
        have o6 : ∀ i, ¬ i = x1 → gI s6 16 i = gI s2 16 i := fun i hi => by rw [e6, gI_nk (by decide), e5, gI_nj hi, o4 i hi]
        have hF6 : Fr [15, 16] σ s6 := by
          rw [e6, e5]
          exact (hF4.tr (Fr.I (by decide) _ _)).tr (Fr.I (by decide) _ _)
        have hT6 := hT.fr hF6 (by decide)
        clear e5 e6
        rw [g6]
        refine sp_at hT6 ⟨⟨by omega, by omega⟩, fun c3 => ?_, fun c3 => ?_⟩
        · rw [if_neg c3] at hn
          refine ⟨fun c4 => ?_, fun c4 => ?_⟩
          · rw [if_pos c4] at hn
            refine ⟨⟨by omega, by omega⟩, fun s7 e7 x2 e2 => ⟨⟨by omega, by omega, by rw [e7]; exact hF6.tr (Fr.I (by decide) _ _), (fun i => if i = (m : Int) - (((m : Int) - x1 - 1).toNat + 1) then 10 * (ltr n f p' - 48) + (ltr n f (p' + 1) - 48) else t i), p' + 3, by rw [e7, gI_eq]; omega, ⟨by omega, by omega⟩, fun i i1 i2 => ?_, ?_⟩, by dsimp only; omega⟩⟩
            · rw [e7, gI_nk (by decide)]
              exact (by
                by_cases e : i = x1
                · rw [e, v6]; exact (if_pos (by omega)).symm
                · rw [o6 i e, ht i i1 (by omega)]; exact (if_neg (by omega)).symm : gI s6 16 i = (fun i => if i = (m : Int) - (((m : Int) - x1 - 1).toNat + 1) then 10 * (ltr n f p' - 48) + (ltr n f (p' + 1) - 48) else t i) i)
            · rw [show ((m : Int) - x2).toNat = ((m : Int) - x1 - 1).toNat by omega]
              exact hn
          · rw [if_neg c4] at hn
            exact h0 hn.symm s6 hF6
        · rw [if_pos c3] at hn
          refine ⟨fun c4 => ?_, fun c4 => ?_⟩
          · rw [if_pos c4] at hn
            refine ⟨⟨by omega, by omega⟩, fun s7 e7 x2 e2 => ⟨⟨by omega, by omega, by rw [e7]; exact hF6.tr (Fr.I (by decide) _ _), (fun i => if i = (m : Int) - (((m : Int) - x1 - 1).toNat + 1) then 10 * (ltr n f p' - 48) + (ltr n f (p' + 1) - 48) else t i), p' + 3, by rw [e7, gI_eq]; omega, ⟨by omega, by omega⟩, fun i i1 i2 => ?_, ?_⟩, by dsimp only; omega⟩⟩
            · rw [e7, gI_nk (by decide)]
              exact (by
                by_cases e : i = x1
                · rw [e, v6]; exact (if_pos (by omega)).symm
                · rw [o6 i e, ht i i1 (by omega)]; exact (if_neg (by omega)).symm : gI s6 16 i = (fun i => if i = (m : Int) - (((m : Int) - x1 - 1).toNat + 1) then 10 * (ltr n f p' - 48) + (ltr n f (p' + 1) - 48) else t i) i)
            · rw [show ((m : Int) - x2).toNat = ((m : Int) - x1 - 1).toNat by omega]
              exact hn
          · rw [if_neg c4] at hn
            exact h0 hn.symm s6 hF6
      · rw [if_neg hg] at hn
        refine ⟨⟨by omega, by omega⟩, fun c3 => ?_, fun c3 => ?_⟩
        · rw [if_neg c3] at hn
          refine ⟨fun c4 => ?_, fun c4 => ?_⟩
          · rw [if_pos c4] at hn
            refine ⟨⟨by omega, by omega⟩, fun s7 e7 x2 e2 => ⟨⟨by omega, by omega, by rw [e7]; exact hF4.tr (Fr.I (by decide) _ _), (fun i => if i = (m : Int) - (((m : Int) - x1 - 1).toNat + 1) then ltr n f p' - 48 else t i), p' + 2, by rw [e7, gI_eq]; omega, ⟨by omega, by omega⟩, fun i i1 i2 => ?_, ?_⟩, by dsimp only; omega⟩⟩
            · rw [e7, gI_nk (by decide)]
              exact (by
                by_cases e : i = x1
                · rw [e, v4]; exact (if_pos (by omega)).symm
                · rw [o4 i e, ht i i1 (by omega)]; exact (if_neg (by omega)).symm : gI s4 16 i = (fun i => if i = (m : Int) - (((m : Int) - x1 - 1).toNat + 1) then ltr n f p' - 48 else t i) i)
            · rw [show ((m : Int) - x2).toNat = ((m : Int) - x1 - 1).toNat by omega]
              exact hn
          · rw [if_neg c4] at hn
            exact h0 hn.symm s4 hF4
        · rw [if_pos c3] at hn
          refine ⟨fun c4 => ?_, fun c4 => ?_⟩
          · rw [if_pos c4] at hn
            refine ⟨⟨by omega, by omega⟩, fun s7 e7 x2 e2 => ⟨⟨by omega, by omega, by rw [e7]; exact hF4.tr (Fr.I (by decide) _ _), (fun i => if i = (m : Int) - (((m : Int) - x1 - 1).toNat + 1) then ltr n f p' - 48 else t i), p' + 2, by rw [e7, gI_eq]; omega, ⟨by omega, by omega⟩, fun i i1 i2 => ?_, ?_⟩, by dsimp only; omega⟩⟩
            · rw [e7, gI_nk (by decide)]
              exact (by
                by_cases e : i = x1
                · rw [e, v4]; exact (if_pos (by omega)).symm
                · rw [o4 i e, ht i i1 (by omega)]; exact (if_neg (by omega)).symm : gI s4 16 i = (fun i => if i = (m : Int) - (((m : Int) - x1 - 1).toNat + 1) then ltr n f p' - 48 else t i) i)
            · rw [show ((m : Int) - x2).toNat = ((m : Int) - x1 - 1).toNat by omega]
              exact hn
          · rw [if_neg c4] at hn
            exact h0 hn.symm s4 hF4
    · rw [if_neg hf] at hn
      exact h0 hn.symm s2 hF
