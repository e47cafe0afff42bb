/-! ===== the model's draft; it lays a text ===== -/
def RF (σ σ' : MS) : Prop := Fr [0, 2, 3, 4, 5, 6, 7] σ σ' ∧ ∀ j, ¬ (2 ≤ j ∧ j ≤ 5) → gI σ' 0 j = gI σ 0 j
theorem RF.rf {σ : MS} : RF σ σ := ⟨Fr.rf, fun _ _ => rfl⟩
theorem RF.tr {a b c : MS} (h : RF a b) (h2 : RF b c) : RF a c := ⟨h.1.tr h2.1, fun j hj => (h2.2 j hj).trans (h.2 j hj)⟩
theorem NF.R {σ σ' : MS} (h : NF σ σ') : RF σ σ' := ⟨h.1.mono (by decide), fun j hj => h.2 j (by omega)⟩
theorem RF.w0 {σ σ' : MS} (h : RF σ σ') {j : Int} (hj : 2 ≤ j ∧ j ≤ 5) (v : Int) : RF σ (sI σ' 0 j v) := ⟨h.1.tr (Fr.I (by decide) _ _), fun i hi => by rw [gI_nj (by omega)]; exact h.2 i hi⟩
theorem RF.w {σ σ' : MS} (h : RF σ σ') {k : Nat} (hk : 2 ≤ k ∧ k ≤ 7) (j v : Int) : RF σ (sI σ' k j v) := ⟨h.1.tr (Fr.I (by simp; omega) _ _), fun i hi => by rw [gI_nk (by omega)]; exact h.2 i hi⟩
theorem TM.rf {σ σ' : MS} {n : Int} {f : Int → Int} (h : TM σ n f) (hF : RF σ σ') : TM σ' n f := by
  refine ⟨by rw [hF.2 0 (by decide)]; exact h.1, h.2.1, fun i i1 i2 => ?_⟩
  rw [hF.1.gI (by decide)]
  exact h.2.2 i i1 i2
def DM (σ : MS) (d : DT) : Prop := (gI σ 0 3 = dN d ∧ gI σ 0 4 = dB d ∧ gI σ 0 5 = dM d) ∧ (∀ i, 0 ≤ i → i < dN d → gI σ 2 i = dK d i ∧ gI σ 3 i = dL d i) ∧
  ∀ a b, 0 ≤ a → a < 7 → 0 ≤ b → b < 7 → gI σ 4 (7 * a + b) = (if a = b then 0 else dW d (pr a b)) ∧ (¬ a = b → ∀ x, decide (gI σ 5 (7 * a + b) ≤ x ∧ x ≤ gI σ 6 (7 * a + b)) = dS d (pr a b) x)
theorem DM.nf {σ σ' : MS} {d : DT} (h : DM σ d) (hF : NF σ σ') : DM σ' d := by
  obtain ⟨⟨h1, h2, h3⟩, h4, h5⟩ := h
  refine ⟨⟨by rw [hF.2 3 (by decide)]; exact h1, by rw [hF.2 4 (by decide)]; exact h2, by rw [hF.2 5 (by decide)]; exact h3⟩, fun i i1 i2 => ?_, fun a b a1 a2 b1 b2 => ?_⟩
  · rw [hF.1.gI (by decide), hF.1.gI (by decide)]; exact h4 i i1 i2
  · rw [hF.1.gI (by decide), hF.1.gI (by decide), hF.1.gI (by decide)]; exact h5 a b a1 a2 b1 b2
theorem sp_anew {σ : MS} {Q : MS → Prop} (h : ∀ σ', RF σ σ' → DM σ' dt0 → Q σ') : wp_M_anew σ Q := by
  unfold wp_M_anew
  intro s1 e1 s2 e2 s3 e3
  have hR3 : RF σ s3 := by rw [e3, e2, e1]; exact ((RF.rf.w0 (by decide) _).w0 (by decide) _).w0 (by decide) _
  have v3 : gI s3 0 3 = 0 := by rw [e3, gI_nj (by decide), e2, gI_nj (by decide), e1, gI_eq]
  have v4 : gI s3 0 4 = 0 := by rw [e3, gI_nj (by decide), e2, gI_eq]
  have v5 : gI s3 0 5 = 60 := by rw [e3, gI_eq]
  refine ⟨(fun x s => 0 ≤ x ∧ x ≤ 49 ∧ RF σ s ∧ Fr [4, 5, 6] s3 s ∧ ∀ p, 0 ≤ p → p < x → gI s 4 p = 0 ∧ gI s 5 p = 1 ∧ gI s 6 p = 0), (fun x _ => (49 - x).toNat), ⟨by omega, by omega, hR3, Fr.rf, fun p p1 p2 => by omega⟩, ?_⟩
  rintro x1 s4 ⟨g0, g1, hR, hF, hv⟩
  refine ⟨⟨by omega, by omega⟩, fun c => ?_, fun c => ⟨⟨g0, by omega⟩, ?_⟩⟩
  · refine h s4 hR ⟨⟨by rw [hF.gI (by decide)]; exact v3, by rw [hF.gI (by decide)]; exact v4, by rw [hF.gI (by decide)]; exact v5⟩, fun i i1 i2 => ?_, fun a b a1 a2 b1 b2 => ?_⟩
    · have i3 : i < 0 := i2; omega
    · obtain ⟨q1, q2, q3⟩ := hv (7 * a + b) (by omega) (by omega)
      rw [q1, q2, q3]
      refine ⟨?_, fun _ x => decide_eq_false (by omega)⟩
      split <;> rfl
  · intro s5 e5 s6 e6 s7 e7 x2 e2
    refine ⟨⟨by omega, by omega, by rw [e7, e6, e5]; exact ((hR.w (by decide) _ _).w (by decide) _ _).w (by decide) _ _, by rw [e7, e6, e5]; exact ((hF.tr (Fr.I (by decide) _ _)).tr (Fr.I (by decide) _ _)).tr (Fr.I (by decide) _ _), fun p p1 p2 => ?_⟩, by dsimp only; omega⟩
    rw [e7, gI_nk (by decide), gI_nk (by decide), e6, gI_nk (by decide), e5]
    by_cases e : p = x1
    · rw [e, gI_eq, gI_eq, gI_eq]; exact ⟨rfl, rfl, rfl⟩
    · rw [gI_nj e, gI_nj e, gI_nj e, gI_nk (by decide), gI_nk (by decide), gI_nk (by decide)]; exact hv p p1 (by omega)
theorem sp_isTwo {σ : MS} {d : DT} {a b : Int} {Q : Int → Prop} (hd : gI σ 0 3 = dN d) (ha : gI σ 7 0 = a) (hb : gI σ 7 1 = b) (ha0 : 0 ≤ a) (hb0 : 0 ≤ b) (h1 : two d a b → Q 1) (h0 : ¬ two d a b → Q 0) : wp_M_isTwo σ Q := by
  unfold wp_M_isTwo
  rw [hd, ha, hb]
  refine ⟨fun c => h0 (fun q => by unfold two at q; omega), fun c => ⟨fun c2 => h0 (fun q => by unfold two at q; omega), fun c2 => ⟨fun c3 => h0 (fun q => q.2.2 c3), fun c3 => h1 ⟨by omega, by omega, c3⟩⟩⟩⟩
/-- an item, behind its letter -/
theorem sp_readsItem {σ : MS} {n p : Int} {f : Int → Int} {d : DT} {Q : Int → MS → Prop} (hT : TM σ n f) (hp : gI σ 0 2 = p) (hp2 : 0 ≤ p ∧ p < n) (hD : DM σ d) (hd : WFD d)
    (h0 : item (ltr n f) p d = none → ∀ σ', RF σ σ' → Q 0 σ')
    (h1 : ∀ q d', item (ltr n f) p d = some (q, d') → ∀ σ', RF σ σ' → gI σ' 0 2 = q → q ≤ p + 13 → DM σ' d' → Q 1 σ') : wp_M_readsItem σ Q := by
  have hn := hT.2.1
  have hdn := hd.1
  unfold wp_M_readsItem
  have eh : ∀ Q' : Int → Prop, Q' (ltr n f p) → wp_M_here σ Q' := fun Q' hq => by
    unfold wp_M_here
    rw [hT.1, hp]
    refine ⟨fun c => by omega, fun c => ⟨⟨by omega, by omega⟩, ?_⟩⟩
    have e : ltr n f p = f p := by unfold ltr; rw [if_pos hp2]
    rw [(hT.2.2 p hp2.1 hp2.2).1, ← e]
    exact hq
  refine eh _ ?_
  rw [hp]
  refine ⟨⟨by omega, by omega⟩, ?_⟩
  intro s1 e1
  have hN1 : NF σ s1 := by rw [e1]; exact NF.rf.w0 _
  have hT1 := hT.nf hN1
  have hD1 := hD.nf hN1
  have g1 : gI s1 0 2 = p + 1 := by rw [e1, gI_eq]
  clear e1
  unfold item at h0 h1
  generalize hl : ltr n f p = l at *
  -- numbers first
  have num' : ∀ (m : Nat) (Q' : Int → MS → Prop), many l = m → ¬ m = 0 → (∀ s2, RF σ s2 → Q 0 s2 → Q' 0 s2) →
      (∀ (t : Int → Int) (q : Int) (s2 : MS), NF s1 s2 → (∀ i, 0 ≤ t i ∧ t i ≤ 99) → gI s2 0 2 = q → (∀ i : Int, 0 ≤ i → i < m → gI s2 7 i = t i) →
        (tl l t d = none → ∀ σ', RF σ σ' → Q 0 σ') → (∀ d', tl l t d = some d' → ∀ σ', RF σ σ' → gI σ' 0 2 = q → DM σ' d' → Q 1 σ') → Q' 1 s2) → wp_M_numbers m s1 Q' := by
    intro m Q' hm hm0 q0 q1
    rw [hm, if_neg hm0] at h0 h1
    refine sp_Mnumbers hT1 (by rw [← hm]; exact many_in _) g1 ⟨by omega, by omega⟩ (fun hnn s2 hF2 => ?_) (fun t q hnn s2 hF2 h2 h2b ht => ?_)
    · rw [hnn] at h0
      exact q0 s2 (hN1.R.tr hF2.R) (h0 rfl s2 (hN1.R.tr hF2.R))
    · rw [hnn] at h0 h1
      have hni := nums_in hnn (fun _ => ⟨Int.le_refl 0, by decide⟩)
      refine q1 t q s2 hF2 hni.1 h2 ht (fun htl => ?_) (fun d' htl s3 hR3 h32 hD3 => ?_)
      · simp only [htl] at h0
        exact h0 trivial
      · simp only [htl] at h1
        exact h1 q d' rfl s3 hR3 h32 (by omega) hD3
  refine ⟨fun e => ?_, fun e => ?_, fun e => ?_, fun e => ?_, fun e => ?_, fun e0 e1 e2 e3 e4 => ?_⟩
  · unfold wp_M_readsBell
    refine num' 1 _ (by rw [e]; rfl) (by decide) (fun s2 _ hq => ⟨fun _ => hq, fun z => absurd rfl z⟩) (fun t q s2 hF2 hti h2 ht ho1 ho2 => ⟨fun z => absurd z (by decide), fun _ => ?_⟩)
    have hD2 := hD1.nf hF2
    have hR2 : RF σ s2 := hN1.R.tr hF2.R
    have t0 := ht 0 (by omega) (by decide)
    unfold tl at ho1 ho2
    rw [if_pos e] at ho1 ho2
    rw [t0]
    refine ⟨fun c s3 e3 => ?_, fun c => ?_⟩
    · rw [if_pos c] at ho2
      obtain ⟨⟨d1, d2, d3⟩, d4, d5⟩ := hD2
      refine ho2 _ rfl s3 (by rw [e3]; exact hR2.w0 (by decide) _) (by rw [e3, gI_nj (by decide)]; exact h2) ⟨⟨?_, ?_, ?_⟩, fun i i1 i2 => ?_, fun a b a1 a2 b1 b2 => ?_⟩
      · rw [e3, gI_nj (by decide)]; exact d1
      · rw [e3, gI_eq]; rfl
      · rw [e3, gI_nj (by decide)]; exact d3
      · rw [e3, gI_nk (by decide), gI_nk (by decide)]; exact d4 i i1 i2
      · rw [e3, gI_nk (by decide), gI_nk (by decide), gI_nk (by decide)]; exact d5 a b a1 a2 b1 b2
    · rw [if_neg c] at ho1
      exact ho1 rfl s2 hR2
  · unfold wp_M_readsHome
    refine num' 2 _ (by rw [e]; rfl) (by decide) (fun s2 _ hq => ⟨fun _ => hq, fun z => absurd rfl z⟩) (fun t q s2 hF2 hti h2 ht ho1 ho2 => ⟨fun z => absurd z (by decide), fun _ => ?_⟩)
    have hD2 := hD1.nf hF2
    have hR2 : RF σ s2 := hN1.R.tr hF2.R
    have t0 := ht 0 (by omega) (by decide)
    have t1 := ht 1 (by omega) (by decide)
    obtain ⟨⟨d1, d2, d3⟩, d4, d5⟩ := hD2
    unfold tl at ho1 ho2
    rw [if_neg (by omega), if_pos e] at ho1 ho2
    rw [t0, t1, d1]
    refine ⟨fun c => ?_, fun c => ⟨fun c2 => ?_, fun c2 => ⟨fun c3 => ?_, fun c3 => ?_⟩⟩⟩
    · rw [if_neg (by omega)] at ho1; exact ho1 rfl s2 hR2
    · rw [if_neg (by omega)] at ho1; exact ho1 rfl s2 hR2
    · rw [if_pos (by omega)] at ho2
      unfold wp_M_comesHome
      rw [d1]
      refine ⟨⟨by omega, by omega⟩, fun s3 e3 => ?_⟩
      have k3 : gI s3 0 3 = dN d := by rw [e3, gI_nk (by decide)]; exact d1
      rw [k3]
      refine ⟨⟨by omega, by omega⟩, fun s4 e4 => ?_⟩
      have k4 : gI s4 0 3 = dN d := by rw [e4, gI_nk (by decide)]; exact k3
      rw [k4]
      refine ⟨⟨by omega, by omega⟩, fun s5 e5 => ?_⟩
      refine ho2 _ rfl s5 (by rw [e5, e4, e3]; exact ((hR2.w (by decide) _ _).w (by decide) _ _).w0 (by decide) _) (by rw [e5, gI_nj (by decide), e4, gI_nk (by decide), e3, gI_nk (by decide)]; exact h2) ⟨⟨?_, ?_, ?_⟩, fun i i1 i2 => ?_, fun a b a1 a2 b1 b2 => ?_⟩
      · rw [e5, gI_eq]; rfl
      · rw [e5, gI_nj (by decide), e4, gI_nk (by decide), e3, gI_nk (by decide)]; exact d2
      · rw [e5, gI_nj (by decide), e4, gI_nk (by decide), e3, gI_nk (by decide)]; exact d3
      · have i3 : i < dN d + 1 := i2
        show _ = (if i = dN d then t 0 else dK d i) ∧ _ = (if i = dN d then t 1 else dL d i)
        rw [e5, gI_nk (by decide), gI_nk (by decide), e4, gI_nk (by decide), e3]
        by_cases z : i = dN d
        · rw [if_pos z, if_pos z, z, gI_eq, gI_eq]; exact ⟨rfl, rfl⟩
        · rw [if_neg z, if_neg z, gI_nj z, gI_nj z, gI_nk (by decide)]; exact d4 i i1 (by omega)
      · rw [e5, gI_nk (by decide), gI_nk (by decide), gI_nk (by decide), e4, gI_nk (by decide), gI_nk (by decide), gI_nk (by decide), e3, gI_nk (by decide), gI_nk (by decide), gI_nk (by decide)]; exact d5 a b a1 a2 b1 b2
    · rw [if_neg (by omega)] at ho1; exact ho1 rfl s2 hR2
  · unfold wp_M_readsMost
    refine num' 1 _ (by rw [e]; rfl) (by decide) (fun s2 _ hq => ⟨fun _ => hq, fun z => absurd rfl z⟩) (fun t q s2 hF2 hti h2 ht ho1 ho2 => ⟨fun z => absurd z (by decide), fun _ => ?_⟩)
    have hD2 := hD1.nf hF2
    have hR2 : RF σ s2 := hN1.R.tr hF2.R
    have t0 := ht 0 (by omega) (by decide)
    unfold tl at ho1 ho2
    rw [if_neg (by omega), if_neg (by omega), if_pos e] at ho1 ho2
    rw [t0]
    refine ⟨fun c s3 e3 => ?_, fun c => ?_⟩
    · rw [if_pos c] at ho2
      obtain ⟨⟨d1, d2, d3⟩, d4, d5⟩ := hD2
      refine ho2 _ rfl s3 (by rw [e3]; exact hR2.w0 (by decide) _) (by rw [e3, gI_nj (by decide)]; exact h2) ⟨⟨?_, ?_, ?_⟩, fun i i1 i2 => ?_, fun a b a1 a2 b1 b2 => ?_⟩
      · rw [e3, gI_nj (by decide)]; exact d1
      · rw [e3, gI_nj (by decide)]; exact d2
      · rw [e3, gI_eq]; rfl
      · rw [e3, gI_nk (by decide), gI_nk (by decide)]; exact d4 i i1 i2
      · rw [e3, gI_nk (by decide), gI_nk (by decide), gI_nk (by decide)]; exact d5 a b a1 a2 b1 b2
    · rw [if_neg c] at ho1
      exact ho1 rfl s2 hR2
  · unfold wp_M_readsSnow
    refine num' 4 _ (by rw [e]; rfl) (by decide) (fun s2 _ hq => ⟨fun _ => hq, fun z => absurd rfl z⟩) (fun t q s2 hF2 hti h2 ht ho1 ho2 => ⟨fun z => absurd z (by decide), fun _ => ?_⟩)
    have hD2 := hD1.nf hF2
    have hR2 : RF σ s2 := hN1.R.tr hF2.R
    have t0 := ht 0 (by omega) (by decide)
    have t1 := ht 1 (by omega) (by decide)
    have t2 := ht 2 (by omega) (by decide)
    have t3 := ht 3 (by omega) (by decide)
    obtain ⟨⟨d1, d2, d3⟩, d4, d5⟩ := hD2
    unfold tl at ho1 ho2
    rw [if_neg (by omega), if_neg (by omega), if_neg (by omega), if_pos e] at ho1 ho2
    refine sp_isTwo (d := d) d1 t0 t1 (hti 0).1 (hti 1).1 (fun ha => ⟨fun z => absurd z (by decide), fun _ => ?_⟩) (fun ha => ⟨fun _ => ?_, fun z => absurd rfl z⟩)
    · rw [t0, t1, t2, t3]
      refine ⟨fun c => ?_, fun c => ⟨fun c2 => ?_, fun c2 => ?_⟩⟩
      · rw [if_neg (by omega)] at ho1; exact ho1 rfl s2 hR2
      · rw [if_pos ⟨ha, by omega, c2⟩] at ho2
        unfold two at ha
        unfold wp_M_snows
        refine ⟨⟨by omega, by omega⟩, fun s3 e3 => ⟨⟨by omega, by omega⟩, fun s4 e4 s5 e5 s6 e6 => ?_⟩⟩
        have hR6 : RF σ s6 := by rw [e6, e5, e4, e3]; exact (((hR2.w (by decide) _ _).w (by decide) _ _).w (by decide) _ _).w (by decide) _ _
        have ko : ∀ k, ¬ k = 5 → ¬ k = 6 → ∀ j, gI s6 k j = gI s2 k j := fun k k5 k6 j => by rw [e6, gI_nk k6, e5, gI_nk k6, e4, gI_nk k5, e3, gI_nk k5]
        refine ho2 _ rfl s6 hR6 (by rw [ko 0 (by decide) (by decide)]; exact h2) ⟨⟨by rw [ko 0 (by decide) (by decide)]; exact d1, by rw [ko 0 (by decide) (by decide)]; exact d2, by rw [ko 0 (by decide) (by decide)]; exact d3⟩, fun i i1 i2 => by rw [ko 2 (by decide) (by decide), ko 3 (by decide) (by decide)]; exact d4 i i1 i2, fun a b a1 a2 b1 b2 => ⟨by rw [ko 4 (by decide) (by decide)]; exact (d5 a b a1 a2 b1 b2).1, fun hab x => ?_⟩⟩
        show _ = if pr a b = pr (t 0) (t 1) then decide (t 2 ≤ x ∧ x ≤ t 3) else dS d (pr a b) x
        have g5 : gI s6 5 (7 * a + b) = if (a = t 0 ∧ b = t 1) ∨ (a = t 1 ∧ b = t 0) then t 2 else gI s2 5 (7 * a + b) := by
          rw [e6, gI_nk (by decide), e5, gI_nk (by decide), e4]
          by_cases z : a = t 1 ∧ b = t 0
          · rw [z.1, z.2, gI_eq, if_pos (Or.inr ⟨rfl, rfl⟩)]
          · rw [gI_nj (by omega), e3]
            by_cases w : a = t 0 ∧ b = t 1
            · rw [w.1, w.2, gI_eq, if_pos (Or.inl ⟨rfl, rfl⟩)]
            · rw [gI_nj (by omega), if_neg (by omega)]
        have g6 : gI s6 6 (7 * a + b) = if (a = t 0 ∧ b = t 1) ∨ (a = t 1 ∧ b = t 0) then t 3 else gI s2 6 (7 * a + b) := by
          rw [e6]
          by_cases z : a = t 1 ∧ b = t 0
          · rw [z.1, z.2, gI_eq, if_pos (Or.inr ⟨rfl, rfl⟩)]
          · rw [gI_nj (by omega), e5]
            by_cases w : a = t 0 ∧ b = t 1
            · rw [w.1, w.2, gI_eq, if_pos (Or.inl ⟨rfl, rfl⟩)]
            · rw [gI_nj (by omega), e4, gI_nk (by decide), e3, gI_nk (by decide), if_neg (by omega)]
        rw [g5, g6]
        by_cases z : (a = t 0 ∧ b = t 1) ∨ (a = t 1 ∧ b = t 0)
        · rw [if_pos z, if_pos z, if_pos (by unfold pr; omega)]
        · rw [if_neg z, if_neg z, if_neg (by unfold pr; omega)]
          exact (d5 a b a1 a2 b1 b2).2 hab x
      · rw [if_neg (by omega)] at ho1; exact ho1 rfl s2 hR2
    · rw [if_neg (fun z => ha z.1)] at ho1; exact ho1 rfl s2 hR2
  · unfold wp_M_readsWay
    refine num' 3 _ (by rw [e]; rfl) (by decide) (fun s2 _ hq => ⟨fun _ => hq, fun z => absurd rfl z⟩) (fun t q s2 hF2 hti h2 ht ho1 ho2 => ⟨fun z => absurd z (by decide), fun _ => ?_⟩)
    have hD2 := hD1.nf hF2
    have hR2 : RF σ s2 := hN1.R.tr hF2.R
    have t0 := ht 0 (by omega) (by decide)
    have t1 := ht 1 (by omega) (by decide)
    have t2 := ht 2 (by omega) (by decide)
    obtain ⟨⟨d1, d2, d3⟩, d4, d5⟩ := hD2
    unfold tl at ho1 ho2
    rw [if_neg (by omega), if_neg (by omega), if_neg (by omega), if_neg (by omega), if_pos e] at ho1 ho2
    refine sp_isTwo (d := d) d1 t0 t1 (hti 0).1 (hti 1).1 (fun ha => ⟨fun z => absurd z (by decide), fun _ => ?_⟩) (fun ha => ⟨fun _ => ?_, fun z => absurd rfl z⟩)
    · rw [t0, t1, t2]
      refine sp_Min (fun c => ⟨fun _ => ?_, fun z => absurd z (by decide)⟩) (fun c => ⟨fun z => absurd rfl z, fun _ => ?_⟩)
      · rw [if_pos ⟨ha, c.1, c.2⟩] at ho2
        unfold two at ha
        unfold wp_M_joins
        refine ⟨⟨by omega, by omega⟩, fun s3 e3 => ⟨⟨by omega, by omega⟩, fun s4 e4 => ?_⟩⟩
        have hR4 : RF σ s4 := by rw [e4, e3]; exact (hR2.w (by decide) _ _).w (by decide) _ _
        have ko : ∀ k, ¬ k = 4 → ∀ j, gI s4 k j = gI s2 k j := fun k k4 j => by rw [e4, gI_nk k4, e3, gI_nk k4]
        refine ho2 _ rfl s4 hR4 (by rw [ko 0 (by decide)]; exact h2) ⟨⟨by rw [ko 0 (by decide)]; exact d1, by rw [ko 0 (by decide)]; exact d2, by rw [ko 0 (by decide)]; exact d3⟩, fun i i1 i2 => by rw [ko 2 (by decide), ko 3 (by decide)]; exact d4 i i1 i2, fun a b a1 a2 b1 b2 => ⟨?_, fun hab x => by rw [ko 5 (by decide), ko 6 (by decide)]; exact (d5 a b a1 a2 b1 b2).2 hab x⟩⟩
        show _ = if a = b then 0 else (if pr a b = pr (t 0) (t 1) then t 2 else dW d (pr a b))
        have g4 : gI s4 4 (7 * a + b) = if (a = t 0 ∧ b = t 1) ∨ (a = t 1 ∧ b = t 0) then t 2 else gI s2 4 (7 * a + b) := by
          rw [e4]
          by_cases z : a = t 1 ∧ b = t 0
          · rw [z.1, z.2, gI_eq, if_pos (Or.inr ⟨rfl, rfl⟩)]
          · rw [gI_nj (by omega), e3]
            by_cases w : a = t 0 ∧ b = t 1
            · rw [w.1, w.2, gI_eq, if_pos (Or.inl ⟨rfl, rfl⟩)]
            · rw [gI_nj (by omega), if_neg (by omega)]
        rw [g4]
        by_cases z : (a = t 0 ∧ b = t 1) ∨ (a = t 1 ∧ b = t 0)
        · rw [if_pos z, if_neg (by omega), if_pos (by unfold pr; omega)]
        · rw [if_neg z, (d5 a b a1 a2 b1 b2).1]
          by_cases w : a = b
          · rw [if_pos w, if_pos w]
          · rw [if_neg w, if_neg w, if_neg (by unfold pr; omega)]
      · rw [if_neg (fun z => c ⟨z.2.1, z.2.2⟩)] at ho1; exact ho1 rfl s2 hR2
    · rw [if_neg (fun z => ha z.1)] at ho1; exact ho1 rfl s2 hR2
  · have hz : many l = 0 := by unfold many; rw [if_neg e0, if_neg e1, if_neg e2, if_neg e3, if_neg e4]
    rw [if_pos hz] at h0
    exact h0 rfl s1 hN1.R
