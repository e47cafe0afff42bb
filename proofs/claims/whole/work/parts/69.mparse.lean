/-! ===== the model reads a text ===== -/
def TM (σ : MS) (n : Int) (f : Int → Int) : Prop := gI σ 0 0 = n ∧ (0 ≤ n ∧ n ≤ 200) ∧ ∀ i, 0 ≤ i → i < n → gI σ 1 i = f i ∧ 32 ≤ f i ∧ f i ≤ 126
def lq (r x : Int) : Prop := (r = x ∧ 32 ≤ x ∧ x ≤ 126) ∨ (r = 0 ∧ x = 32)
theorem sp_here {σ : MS} {n p : Int} {f : Int → Int} {Q : Int → Prop} (hT : TM σ n f) (hp : gI σ 0 2 = p) (hp0 : 0 ≤ p) (h : ∀ r, lq r (ltr n f p) → Q r) : wp_M_here σ Q := by
  obtain ⟨h1, h2, h3⟩ := hT
  unfold wp_M_here
  rw [h1, hp]
  unfold ltr at h
  refine ⟨fun c => ?_, fun c => ⟨⟨hp0, by omega⟩, ?_⟩⟩
  · rw [if_neg (by omega)] at h; exact h 0 (Or.inr ⟨rfl, rfl⟩)
  · rw [if_pos (by omega)] at h
    have q := h3 p hp0 (by omega)
    rw [q.1]
    exact h _ (Or.inl ⟨rfl, q.2⟩)
/-- what reading numbers may change -/
def NF (σ σ' : MS) : Prop := Fr [0, 7] σ σ' ∧ ∀ j, ¬ j = 2 → gI σ' 0 j = gI σ 0 j
theorem NF.rf {σ : MS} : NF σ σ := ⟨Fr.rf, fun _ _ => rfl⟩
theorem NF.w0 {σ σ' : MS} (h : NF σ σ') (v : Int) : NF σ (sI σ' 0 2 v) := ⟨h.1.tr (Fr.I (by decide) _ _), fun j hj => by rw [gI_nj hj]; exact h.2 j hj⟩
theorem NF.w7 {σ σ' : MS} (h : NF σ σ') (i v : Int) : NF σ (sI σ' 7 i v) := ⟨h.1.tr (Fr.I (by decide) _ _), fun j hj => by rw [gI_nk (by decide)]; exact h.2 j hj⟩
theorem TM.nf {σ σ' : MS} {n : Int} {f : Int → Int} (h : TM σ n f) (hF : NF σ σ') : TM σ' n f := by
  refine ⟨by rw [hF.2 0 (by decide)]; exact h.1, h.2.1, fun i i1 i2 => ?_⟩
  rw [hF.1.gI (by decide)]
  exact h.2.2 i i1 i2
theorem sp_Mnumbers {σ : MS} {n p : Int} {f : Int → Int} {m : Nat} {Q : Int → MS → Prop} (hT : TM σ n f) (hm : m ≤ 4) (hp : gI σ 0 2 = p) (hp2 : 0 ≤ p ∧ p ≤ 1000)
    (h0 : nums (ltr n f) m m p (fun _ => 0) = none → ∀ σ', NF σ σ' → Q 0 σ')
    (h1 : ∀ t q, nums (ltr n f) m m p (fun _ => 0) = some (t, q) → ∀ σ', NF σ σ' → gI σ' 0 2 = q → q ≤ p + 12 → (∀ i : Int, 0 ≤ i → i < m → gI σ' 7 i = t i) → Q 1 σ') : wp_M_numbers m σ Q := by
  unfold wp_M_numbers
  generalize hR : nums (ltr n f) m m p (fun _ => 0) = R at h0 h1
  refine ⟨(fun x s => 0 ≤ x ∧ x ≤ m ∧ NF σ s ∧ ∃ t p', gI s 0 2 = p' ∧ (p ≤ p' ∧ p' ≤ p + 3 * x) ∧ (∀ i, 0 ≤ i → i < x → gI s 7 i = t i) ∧ nums (ltr n f) m (m - x).toNat p' t = R), (fun x _ => (m - x).toNat), ⟨by omega, by omega, NF.rf, fun _ => 0, p, hp, ⟨by omega, by omega⟩, fun i i1 i2 => by omega, by rw [← hR]; congr 1⟩, ?_⟩
  rintro x1 s2 ⟨g0, g1, hF, t, p', ep, ⟨b1, b2⟩, ht, hn⟩
  refine ⟨⟨by omega, by omega⟩, fun c1 => ?_, fun c1 => ?_⟩
  · rw [show ((m : Int) - x1).toNat = 0 by omega] at hn
    exact h1 t p' hn.symm s2 hF ep (by omega) (fun i i1 i2 => ht i i1 (by omega))
  · have hT2 := hT.nf hF
    have ej : ((m : Int) - x1).toNat = ((m : Int) - x1 - 1).toNat + 1 := by omega
    rw [ej] at hn
    unfold nums num at hn
    have eT : (if ((m : Int) - x1 - 1).toNat = 0 then (59 : Int) else 44) = if x1 = (m : Int) - 1 then 59 else 44 := by
      by_cases e : x1 = (m : Int) - 1
      · rw [if_pos (by omega), if_pos e]
      · rw [if_neg (by omega), if_neg e]
    rw [eT] at hn
    -- the end of a number: what stands behind it
    have tail : ∀ (s : MS) (pe v : Int), NF σ s → gI s 0 2 = pe → (p' ≤ pe ∧ pe ≤ p' + 2) → gI s 7 x1 = v → (∀ i, ¬ i = x1 → gI s 7 i = gI s2 7 i) →
        (match (if ltr n f pe = (if x1 = (m : Int) - 1 then 59 else 44) then some (v, pe + 1) else none) with | none => none | some (v, q) => nums (ltr n f) m ((m : Int) - x1 - 1).toNat q (fun i => if i = (m : Int) - (((m : Int) - x1 - 1).toNat + 1) then v else t i)) = R →
        wp_M_here s (fun (r6 : Int) => Rng ((m : Int) - 1) ∧
           (¬ x1 = ((m : Int) - 1) →
           (r6 = 44 →
            Rng ((gI s 0 2) + 1) ∧
             ∀ s4 : MS, s4 = sI s 0 2 ((gI s 0 2) + 1) →
             ∀ x2 : Int, x2 = x1 + 1 →
             (0 ≤ x2 ∧ x2 ≤ m ∧ NF σ s4 ∧ ∃ t p', gI s4 0 2 = p' ∧ (p ≤ p' ∧ p' ≤ p + 3 * x2) ∧ (∀ i, 0 ≤ i → i < x2 → gI s4 7 i = t i) ∧ nums (ltr n f) m (m - x2).toNat p' t = R) ∧ ((m : Int) - x2).toNat < ((m : Int) - x1).toNat) ∧
            (¬ r6 = 44 →
            Q 0 s)) ∧
           (x1 = ((m : Int) - 1) →
           (r6 = 59 →
            Rng ((gI s 0 2) + 1) ∧
             ∀ s5 : MS, s5 = sI s 0 2 ((gI s 0 2) + 1) →
             ∀ x3 : Int, x3 = x1 + 1 →
             (0 ≤ x3 ∧ x3 ≤ m ∧ NF σ s5 ∧ ∃ t p', gI s5 0 2 = p' ∧ (p ≤ p' ∧ p' ≤ p + 3 * x3) ∧ (∀ i, 0 ≤ i → i < x3 → gI s5 7 i = t i) ∧ nums (ltr n f) m (m - x3).toNat p' t = R) ∧ ((m : Int) - x3).toNat < ((m : Int) - x1).toNat) ∧
            (¬ r6 = 59 →
            Q 0 s))) := by
      intro s pe v hFs es hpe ev eo hnn
      refine sp_here (hT.nf hFs) es (by omega) (fun r hr => ⟨⟨by omega, by omega⟩, ?_⟩)
      rw [es]
      have good : ∀ s4 : MS, s4 = sI s 0 2 (pe + 1) → ltr n f pe = (if x1 = (m : Int) - 1 then 59 else 44) → ∀ x2 : Int, x2 = x1 + 1 → (0 ≤ x2 ∧ x2 ≤ m ∧ NF σ s4 ∧ ∃ t p', gI s4 0 2 = p' ∧ (p ≤ p' ∧ p' ≤ p + 3 * x2) ∧ (∀ i, 0 ≤ i → i < x2 → gI s4 7 i = t i) ∧ nums (ltr n f) m (m - x2).toNat p' t = R) ∧ ((m : Int) - x2).toNat < ((m : Int) - x1).toNat := by
        intro s4 e4 hl x2 e2
        rw [if_pos hl] at hnn
        refine ⟨⟨by omega, by omega, by rw [e4]; exact hFs.w0 _, (fun i => if i = (m : Int) - (((m : Int) - x1 - 1).toNat + 1) then v else t i), pe + 1, by rw [e4, gI_eq], ⟨by omega, by omega⟩, fun i i1 i2 => ?_, ?_⟩, by omega⟩
        · rw [e4, gI_nk (by decide)]
          exact (by
            by_cases e : i = x1
            · rw [e, ev]; exact (if_pos (by omega)).symm
            · rw [eo i e, ht i i1 (by omega)]; exact (if_neg (by omega)).symm : gI s 7 i = (fun i => if i = (m : Int) - (((m : Int) - x1 - 1).toNat + 1) then v else t i) i)
        · rw [show ((m : Int) - x2).toNat = ((m : Int) - x1 - 1).toNat by omega]
          exact hnn
      have bad : ¬ ltr n f pe = (if x1 = (m : Int) - 1 then 59 else 44) → Q 0 s := fun hl => by
        rw [if_neg hl] at hnn
        exact h0 hnn.symm s hFs
      refine ⟨fun c3 => ⟨fun c4 => ⟨⟨by omega, by omega⟩, fun s4 e4 => good s4 e4 (by rw [if_neg c3]; rcases hr with q | q <;> omega)⟩, fun c4 => bad (by rw [if_neg c3]; rcases hr with q | q <;> omega)⟩, fun c3 => ⟨fun c4 => ⟨⟨by omega, by omega⟩, fun s4 e4 => good s4 e4 (by rw [if_pos c3]; rcases hr with q | q <;> omega)⟩, fun c4 => bad (by rw [if_pos c3]; rcases hr with q | q <;> omega)⟩⟩
    refine sp_here hT2 ep (by omega) (fun r1 hr1 => sp_Min (fun hf1 => ⟨fun _ => ?_, fun q => absurd q (by decide)⟩) (fun hf1 => ⟨fun q => absurd rfl q, fun _ => ?_⟩))
    · have hf : fig (ltr n f p') := by unfold fig; rcases hr1 with q | q <;> omega
      rw [if_pos hf] at hn
      refine sp_here hT2 ep (by omega) (fun r3 hr3 => ⟨⟨by omega, by omega⟩, ?_⟩)
      have e3v : r3 = ltr n f p' := by unfold fig at hf; rcases hr3 with q | q <;> omega
      rw [e3v]
      have hf' := hf
      unfold fig at hf'
      refine ⟨⟨by omega, by omega⟩, ?_⟩
      intro s3 e3
      have g3 : gI s3 0 2 = p' := by rw [e3, gI_nk (by decide), ep]
      rw [g3]
      refine ⟨⟨by omega, by omega⟩, ?_⟩
      intro s4 e4
      have g4 : gI s4 0 2 = p' + 1 := by rw [e4, gI_eq]
      have v4 : gI s4 7 x1 = ltr n f p' - 48 := by rw [e4, gI_nk (by decide), e3, gI_eq]
      have o4 : ∀ i, ¬ i = x1 → gI s4 7 i = gI s2 7 i := fun i hi => by rw [e4, gI_nk (by decide), e3, gI_nj hi]
      have hF4 : NF σ s4 := by rw [e4, e3]; exact (hF.w7 _ _).w0 _
      clear e3 e4
      refine sp_here (hT.nf hF4) g4 (by omega) (fun r4 hr4 => sp_Min (fun hg1 => ⟨fun q => absurd q (by decide), fun _ => ?_⟩) (fun hg1 => ⟨fun _ => ?_, fun q => absurd rfl q⟩))
      · have hg : fig (ltr n f (p' + 1)) := by unfold fig; rcases hr4 with q | q <;> omega
        rw [if_pos hg] at hn
        have hg' := hg
        unfold fig at hg'
        refine sp_here (hT.nf hF4) g4 (by omega) (fun r7 hr7 => ?_)
        have e7v : r7 = ltr n f (p' + 1) := by rcases hr7 with q | q <;> omega
        rw [v4, e7v]
        refine ⟨⟨by omega, by omega⟩, ?_⟩
        intro s5 e5
        have g5 : gI s5 0 2 = p' + 1 := by rw [e5, gI_nk (by decide), g4]
        rw [g5]
        refine ⟨⟨by omega, by omega⟩, ?_⟩
        intro s6 e6
        refine tail s6 (p' + 2) (10 * (ltr n f p' - 48) + (ltr n f (p' + 1) - 48)) (by rw [e6, e5]; exact (hF4.w7 _ _).w0 _) (by rw [e6, gI_eq]; omega) ⟨by omega, by omega⟩ (by rw [e6, gI_nk (by decide), e5, gI_eq]; omega) (fun i hi => by rw [e6, gI_nk (by decide), e5, gI_nj hi, o4 i hi]) ?_
        rw [show p' + 2 + 1 = p' + 3 by omega]
        exact hn
      · have hg : ¬ fig (ltr n f (p' + 1)) := by unfold fig; rcases hr4 with q | q <;> omega
        rw [if_neg hg] at hn
        refine tail s4 (p' + 1) (ltr n f p' - 48) hF4 g4 ⟨by omega, by omega⟩ v4 o4 ?_
        rw [show p' + 1 + 1 = p' + 2 by omega]
        exact hn
    · have hf : ¬ fig (ltr n f p') := by unfold fig; rcases hr1 with q | q <;> omega
      rw [if_neg hf] at hn
      exact h0 hn.symm s2 hF
