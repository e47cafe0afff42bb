/-! ===== the class's draft ===== -/
def vks (v : Nat) : List Nat := [v, v + 1, v + 2, v + 3, v + 4, v + 5]
theorem vks_ {v k : Nat} (h : k ∈ vks v) : v ≤ k ∧ k ≤ v + 5 := by
  unfold vks at h
  simp at h
  omega
theorem vks_i {v k : Nat} (h : v ≤ k) (h2 : k ≤ v + 5) : k ∈ vks v := by
  unfold vks
  simp
  omega
/-- the draft at a cell holds what is told -/
def DH (σ : MS) (v : Nat) (d : DT) : Prop := (gI σ v 5 = dN d ∧ gI σ v 6 = dB d ∧ gI σ v 7 = dM d) ∧ (∀ i, 0 ≤ i → i < dN d → gI σ (v + 1) i = dK d i ∧ gI σ (v + 2) i = dL d i) ∧
  ∀ p, 0 ≤ p → p < 49 → gI σ (v + 3) p = dW d p ∧ ∀ x, decide (gI σ (v + 4) p ≤ x ∧ x ≤ gI σ (v + 5) p) = dS d p x
theorem DH.fr {σ σ' : MS} {v : Nat} {d : DT} {ks : List Nat} (h : DH σ v d) (hF : Fr ks σ σ') (hk : ∀ k ∈ ks, k < v ∨ v + 5 < k) : DH σ' v d := by
  obtain ⟨⟨h1, h2, h3⟩, h4, h5⟩ := h
  have n : ∀ j, v ≤ j → j ≤ v + 5 → j ∉ ks := fun j j1 j2 q => by have := hk j q; omega
  have e := fun j (j1 : v ≤ j) (j2 : j ≤ v + 5) => hF.gI (n j j1 j2)
  refine ⟨⟨by rw [e v (by omega) (by omega)]; exact h1, by rw [e v (by omega) (by omega)]; exact h2, by rw [e v (by omega) (by omega)]; exact h3⟩, fun i i1 i2 => ?_, fun p p1 p2 => ?_⟩
  · rw [e (v + 1) (by omega) (by omega), e (v + 2) (by omega) (by omega)]
    exact h4 i i1 i2
  · rw [e (v + 3) (by omega) (by omega), e (v + 4) (by omega) (by omega), e (v + 5) (by omega) (by omega)]
    exact h5 p p1 p2
theorem DH.eqV {σ : MS} {v : Nat} {d : DT} (h : DH σ v d) (hd : WFD d) : vC σ v = vOf d := by
  obtain ⟨⟨h1, h2, h3⟩, h4, h5⟩ := h
  have hn := hd.1
  unfold vC vOf
  rw [h1, h3]
  have e1 : (fun h => if 0 ≤ h ∧ h < dN d then gI σ (v + 1) h else 0) = fun h => if 0 ≤ h ∧ h < dN d then dK d h else 0 := by
    funext i
    split
    · rename_i c; exact (h4 i c.1 c.2).1
    · rfl
  have e2 : (fun h => if 0 ≤ h ∧ h < dN d then gI σ (v + 2) h else 0) = fun h => if 0 ≤ h ∧ h < dN d then dL d h else 0 := by
    funext i
    split
    · rename_i c; exact (h4 i c.1 c.2).2
    · rfl
  have e3 : (fun a b => if 0 ≤ a ∧ a < dN d ∧ 0 ≤ b ∧ b < dN d ∧ ¬ a = b then gI σ (v + 3) (pr a b) else 0) = fun a b => if 0 ≤ a ∧ a < dN d ∧ 0 ≤ b ∧ b < dN d ∧ ¬ a = b then dW d (pr a b) else 0 := by
    funext a b
    split
    · rename_i c
      have hp := pr_in c.1 (by omega : a < 7) c.2.2.1 (by omega : b < 7)
      exact (h5 _ hp.1 hp.2).1
    · rfl
  have e4 : (fun x a b => decide (0 ≤ a ∧ a < dN d ∧ 0 ≤ b ∧ b < dN d ∧ ¬ a = b ∧ gI σ (v + 4) (pr a b) ≤ x ∧ x ≤ gI σ (v + 5) (pr a b))) = fun x a b => decide (0 ≤ a ∧ a < dN d ∧ 0 ≤ b ∧ b < dN d ∧ ¬ a = b ∧ dS d (pr a b) x = true) := by
    funext x a b
    by_cases c : 0 ≤ a ∧ a < dN d ∧ 0 ≤ b ∧ b < dN d ∧ ¬ a = b
    · have hp := pr_in c.1 (by omega : a < 7) c.2.2.1 (by omega : b < 7)
      have q := (h5 _ hp.1 hp.2).2 x
      congr 1
      refine propext ⟨fun z => ⟨z.1, z.2.1, z.2.2.1, z.2.2.2.1, z.2.2.2.2.1, ?_⟩, fun z => ⟨z.1, z.2.1, z.2.2.1, z.2.2.2.1, z.2.2.2.2.1, ?_⟩⟩
      · rw [← q]; exact decide_eq_true z.2.2.2.2.2
      · have := z.2.2.2.2.2
        rw [← q] at this
        exact of_decide_eq_true this
    · rw [decide_eq_false (fun q => c ⟨q.1, q.2.1, q.2.2.1, q.2.2.2.1, q.2.2.2.2.1⟩), decide_eq_false (fun q => c ⟨q.1, q.2.1, q.2.2.1, q.2.2.2.1, q.2.2.2.2.1⟩)]
  rw [e1, e2, e3, e4]
theorem DH.wayOK {σ : MS} {v : Nat} {d : DT} (h : DH σ v d) (hd : WFD d) : VA σ v := by
  intro p p1 p2 hp
  rw [(h.2.2 p p1 p2).1] at hp
  rw [h.1.1]
  exact hd.2.2.2.2.2.2 p hp
theorem sp_clear {v : Nat} {σ : MS} {Q : MS → Prop} (h : ∀ σ', Fr (vks v) σ σ' → DH σ' v dt0 → Q σ') : wp_Valley_clear v σ Q := by
  unfold wp_Valley_clear
  intro s1 e1 s2 e2 s3 e3
  have k0 : v ∈ vks v := vks_i (by omega) (by omega)
  have k3 : v + 3 ∈ vks v := vks_i (by omega) (by omega)
  have k4 : v + 4 ∈ vks v := vks_i (by omega) (by omega)
  have k5 : v + 5 ∈ vks v := vks_i (by omega) (by omega)
  have hF3 : Fr (vks v) σ s3 := by
    rw [e3, e2, e1]
    exact ((Fr.I k0 _ _).tr (Fr.I k0 _ _)).tr (Fr.I k0 _ _)
  have v5 : gI s3 v 5 = 0 := by rw [e3, gI_nj (by decide), e2, gI_nj (by decide), e1, gI_eq]
  have v6 : gI s3 v 6 = 0 := by rw [e3, gI_nj (by decide), e2, gI_eq]
  have v7 : gI s3 v 7 = 60 := by rw [e3, gI_eq]
  clear e1 e2 e3
  refine ⟨(fun x s => 0 ≤ x ∧ x ≤ 49 ∧ Fr (vks v) σ s ∧ Fr [v + 3, v + 4, v + 5] s3 s ∧ ∀ p, 0 ≤ p → p < x → gI s (v + 3) p = 0 ∧ gI s (v + 4) p = 28 ∧ gI s (v + 5) p = 0), (fun x _ => (49 - x).toNat), ⟨by omega, by omega, hF3, Fr.rf, fun p p1 p2 => by omega⟩, ?_⟩
  rintro x1 s4 ⟨g0, g1, hF, hF4, hv⟩
  refine ⟨⟨by omega, by omega⟩, fun c => ?_, fun c => ⟨⟨g0, by omega⟩, ?_⟩⟩
  · have nv : v ∉ [v + 3, v + 4, v + 5] := by simp
    refine h s4 hF ⟨⟨by rw [hF4.gI nv]; exact v5, by rw [hF4.gI nv]; exact v6, by rw [hF4.gI nv]; exact v7⟩, fun i i1 i2 => ?_, fun p p1 p2 => ?_⟩
    · have i3 : i < 0 := i2
      omega
    · obtain ⟨q1, q2, q3⟩ := hv p p1 (by omega)
      rw [q1, q2, q3]
      refine ⟨rfl, fun x => ?_⟩
      exact decide_eq_false (by omega)
  · intro s5 e5 s6 e6 s7 e7 x2 e2
    refine ⟨⟨by omega, by omega, ?_, ?_, fun p p1 p2 => ?_⟩, by dsimp only; omega⟩
    · rw [e7, e6, e5]
      exact ((hF.tr (Fr.I k3 _ _)).tr (Fr.I k4 _ _)).tr (Fr.I k5 _ _)
    · rw [e7, e6, e5]
      exact ((hF4.tr (Fr.I (by simp) _ _)).tr (Fr.I (by simp) _ _)).tr (Fr.I (by simp) _ _)
    · have a3 : gI s7 (v + 3) p = if p = x1 then 0 else gI s4 (v + 3) p := by
        rw [e7, gI_nk (by omega), e6, gI_nk (by omega), e5]
        by_cases e : p = x1
        · rw [e, gI_eq, if_pos rfl]
        · rw [gI_nj e, if_neg e]
      have a4 : gI s7 (v + 4) p = if p = x1 then 28 else gI s4 (v + 4) p := by
        rw [e7, gI_nk (by omega), e6]
        by_cases e : p = x1
        · rw [e, gI_eq, if_pos rfl]
        · rw [gI_nj e, if_neg e, e5, gI_nk (by omega)]
      have a5 : gI s7 (v + 5) p = if p = x1 then 0 else gI s4 (v + 5) p := by
        rw [e7]
        by_cases e : p = x1
        · rw [e, gI_eq, if_pos rfl]
        · rw [gI_nj e, if_neg e, e6, gI_nk (by omega), e5, gI_nk (by omega)]
      rw [a3, a4, a5]
      by_cases e : p = x1
      · rw [if_pos e, if_pos e, if_pos e]; exact ⟨rfl, rfl, rfl⟩
      · rw [if_neg e, if_neg e, if_neg e]; exact hv p p1 (by omega)
theorem sp_told {v : Nat} {l : Int} {t : Int → Int} {d : DT} {σ : MS} {Q : Int → MS → Prop} (hv : v = 1 ∨ v = 7) (hD : DH σ v d) (hd : WFD d) (ht : ∀ i : Int, 0 ≤ i → i < many l → gI σ 16 i = t i) (hti : ∀ i, 0 ≤ t i ∧ t i ≤ 99)
    (h0 : tl l t d = none → ∀ σ', Fr (vks v) σ σ' → Q 0 σ') (h1 : ∀ d', tl l t d = some d' → ∀ σ', Fr (vks v) σ σ' → DH σ' v d' → Q 1 σ') : wp_Reader_told v l σ Q := by
  obtain ⟨⟨d1, d2, d3⟩, d4, d5⟩ := hD
  have hn := hd.1
  have k0 : v ∈ vks v := vks_i (by omega) (by omega)
  have k1 : v + 1 ∈ vks v := vks_i (by omega) (by omega)
  have k2 : v + 2 ∈ vks v := vks_i (by omega) (by omega)
  have k3 : v + 3 ∈ vks v := vks_i (by omega) (by omega)
  have k4 : v + 4 ∈ vks v := vks_i (by omega) (by omega)
  have k5 : v + 5 ∈ vks v := vks_i (by omega) (by omega)
  unfold wp_Reader_told
  unfold tl at h0 h1
  refine ⟨fun e => ?_, fun e => ?_, fun e => ?_, fun e => ?_, fun e => ?_, fun e0 e1 e2 e3 e4 => ?_⟩
  · subst e
    rw [if_pos rfl] at h0 h1
    have t0 := ht 0 (by omega) (by decide)
    unfold wp_Valley_putBell
    rw [t0]
    intro s1 e1
    refine ⟨fun c => ?_, fun c => ?_⟩
    · rw [if_neg (by omega)] at h0
      exact h0 rfl s1 (by rw [e1]; exact Fr.I k0 _ _)
    · rw [if_pos (by omega)] at h1
      have hF : Fr [v] σ s1 := by rw [e1]; exact Fr.I (by simp) _ _
      have nk : ∀ j, v < j → j ∉ [v] := fun j hj => by simp; omega
      refine h1 _ rfl s1 (by rw [e1]; exact Fr.I k0 _ _) ⟨⟨?_, ?_, ?_⟩, fun i i1 i2 => ?_, fun p p1 p2 => ?_⟩
      · rw [e1, gI_nj (by decide)]; exact d1
      · rw [e1, gI_eq]; rfl
      · rw [e1, gI_nj (by decide)]; exact d3
      · rw [hF.gI (nk _ (by omega)), hF.gI (nk _ (by omega))]; exact d4 i i1 i2
      · rw [hF.gI (nk _ (by omega)), hF.gI (nk _ (by omega)), hF.gI (nk _ (by omega))]; exact d5 p p1 p2
  · subst e
    rw [if_neg (by decide), if_pos rfl] at h0 h1
    have t0 := ht 0 (by omega) (by decide)
    have t1 := ht 1 (by omega) (by decide)
    unfold wp_Valley_addHome
    rw [t0, t1, d1]
    refine ⟨fun c => ?_, fun c => ⟨fun c2 => ?_, fun c2 => ⟨fun c3 => ⟨⟨hn.1, by omega⟩, ?_⟩, fun c3 => ?_⟩⟩⟩
    · rw [if_neg (by omega)] at h0; exact h0 rfl σ Fr.rf
    · rw [if_neg (by omega)] at h0; exact h0 rfl σ Fr.rf
    · rw [if_pos (by omega)] at h1
      intro s1 e1
      have g1 : gI s1 v 5 = dN d := by rw [e1, gI_nk (by omega)]; exact d1
      rw [g1]
      refine ⟨⟨hn.1, by omega⟩, ?_⟩
      intro s2 e2
      have g2 : gI s2 v 5 = dN d := by rw [e2, gI_nk (by omega)]; exact g1
      rw [g2]
      refine ⟨⟨by omega, by omega⟩, ?_⟩
      intro s3 e3
      have hF : Fr [v, v + 1, v + 2] σ s3 := by
        rw [e3, e2, e1]
        exact ((Fr.I (by simp) _ _).tr (Fr.I (by simp) _ _)).tr (Fr.I (by simp) _ _)
      have nk : ∀ j, v + 2 < j → j ∉ [v, v + 1, v + 2] := fun j hj => by simp; omega
      refine h1 _ rfl s3 (hF.mono (fun k hk => vks_i (by simp at hk; omega) (by simp at hk; omega))) ⟨⟨?_, ?_, ?_⟩, fun i i1 i2 => ?_, fun p p1 p2 => ?_⟩
      · rw [e3, gI_eq]; rfl
      · rw [e3, gI_nj (by decide), e2, gI_nk (by omega), e1, gI_nk (by omega)]; exact d2
      · rw [e3, gI_nj (by decide), e2, gI_nk (by omega), e1, gI_nk (by omega)]; exact d3
      · have i3 : i < dN d + 1 := i2
        show _ = (if i = dN d then t 0 else dK d i) ∧ _ = (if i = dN d then t 1 else dL d i)
        rw [e3, gI_nk (by omega), gI_nk (by omega), e2, gI_nk (by omega), e1]
        by_cases e : i = dN d
        · rw [if_pos e, if_pos e, e, gI_eq, gI_eq]; exact ⟨rfl, rfl⟩
        · rw [if_neg e, if_neg e, gI_nj e, gI_nj e, gI_nk (by omega)]; exact d4 i i1 (by omega)
      · rw [hF.gI (nk _ (by omega)), hF.gI (nk _ (by omega)), hF.gI (nk _ (by omega))]; exact d5 p p1 p2
    · rw [if_neg (by omega)] at h0; exact h0 rfl σ Fr.rf
  · subst e
    rw [if_neg (by decide), if_neg (by decide), if_pos rfl] at h0 h1
    have t0 := ht 0 (by omega) (by decide)
    unfold wp_Valley_limit
    rw [t0]
    intro s1 e1
    refine ⟨fun c => ?_, fun c => ?_⟩
    · rw [if_neg (by omega)] at h0
      exact h0 rfl s1 (by rw [e1]; exact Fr.I k0 _ _)
    · rw [if_pos (by omega)] at h1
      have hF : Fr [v] σ s1 := by rw [e1]; exact Fr.I (by simp) _ _
      have nk : ∀ j, v < j → j ∉ [v] := fun j hj => by simp; omega
      refine h1 _ rfl s1 (by rw [e1]; exact Fr.I k0 _ _) ⟨⟨?_, ?_, ?_⟩, fun i i1 i2 => ?_, fun p p1 p2 => ?_⟩
      · rw [e1, gI_nj (by decide)]; exact d1
      · rw [e1, gI_nj (by decide)]; exact d2
      · rw [e1, gI_eq]; rfl
      · rw [hF.gI (nk _ (by omega)), hF.gI (nk _ (by omega))]; exact d4 i i1 i2
      · rw [hF.gI (nk _ (by omega)), hF.gI (nk _ (by omega)), hF.gI (nk _ (by omega))]; exact d5 p p1 p2
  · subst e
    rw [if_neg (by decide), if_neg (by decide), if_neg (by decide), if_pos rfl] at h0 h1
    have t0 := ht 0 (by omega) (by decide)
    have t1 := ht 1 (by omega) (by decide)
    have t2 := ht 2 (by omega) (by decide)
    have t3 := ht 3 (by omega) (by decide)
    unfold wp_Valley_addSnow
    rw [t0, t1, t2, t3]
    refine hasTwoC d1 (fun ha => ⟨fun q => absurd q (by decide), fun _ => ⟨fun c => ?_, fun c => ⟨fun c2 => ?_, fun c2 => ?_⟩⟩⟩) (fun ha => ⟨fun _ => ?_, fun q => absurd rfl q⟩)
    · rw [if_neg (fun q => by omega)] at h0; exact h0 rfl σ Fr.rf
    · rw [if_pos ⟨ha, c2, by omega⟩] at h1
      have hp := pr_in ha.1.1 (by omega : t 0 < 7) ha.2.1.1 (by omega : t 1 < 7)
      refine sp_pairOf ⟨ha.1.1, by omega⟩ ⟨ha.2.1.1, by omega⟩ ⟨hp, ?_⟩
      intro s1 e1
      refine sp_pairOf ⟨ha.1.1, by omega⟩ ⟨ha.2.1.1, by omega⟩ ⟨hp, ?_⟩
      intro s2 e2
      have hF : Fr [v + 4, v + 5] σ s2 := by
        rw [e2, e1]
        exact (Fr.I (by simp) _ _).tr (Fr.I (by simp) _ _)
      have nk : ∀ j, j < v + 4 → j ∉ [v + 4, v + 5] := fun j hj => by simp; omega
      refine h1 _ rfl s2 (hF.mono (fun k hk => vks_i (by simp at hk; omega) (by simp at hk; omega))) ⟨⟨?_, ?_, ?_⟩, fun i i1 i2 => ?_, fun p p1 p2 => ?_⟩
      · rw [hF.gI (nk _ (by omega))]; exact d1
      · rw [hF.gI (nk _ (by omega))]; exact d2
      · rw [hF.gI (nk _ (by omega))]; exact d3
      · rw [hF.gI (nk _ (by omega)), hF.gI (nk _ (by omega))]; exact d4 i i1 i2
      · refine ⟨by rw [hF.gI (nk _ (by omega))]; exact (d5 p p1 p2).1, fun x => ?_⟩
        show _ = if p = pr (t 0) (t 1) then decide (t 2 ≤ x ∧ x ≤ t 3) else dS d p x
        rw [e2, gI_nk (by omega), e1]
        by_cases e : p = pr (t 0) (t 1)
        · rw [if_pos e, e, gI_eq, gI_eq]
        · rw [if_neg e, gI_nj e, gI_nj e, gI_nk (by omega)]
          exact (d5 p p1 p2).2 x
    · rw [if_neg (fun q => by omega)] at h0; exact h0 rfl σ Fr.rf
    · rw [if_neg (fun q => ha q.1)] at h0; exact h0 rfl σ Fr.rf
  · subst e
    rw [if_neg (by decide), if_neg (by decide), if_neg (by decide), if_neg (by decide), if_pos rfl] at h0 h1
    have t0 := ht 0 (by omega) (by decide)
    have t1 := ht 1 (by omega) (by decide)
    have t2 := ht 2 (by omega) (by decide)
    unfold wp_Valley_addWay
    rw [t0, t1, t2]
    refine hasTwoC d1 (fun ha => ⟨fun q => absurd q (by decide), fun _ => ⟨fun c => ?_, fun c => ⟨fun c2 => ?_, fun c2 => ?_⟩⟩⟩) (fun ha => ⟨fun _ => ?_, fun q => absurd rfl q⟩)
    · rw [if_neg (fun q => by omega)] at h0; exact h0 rfl σ Fr.rf
    · rw [if_pos ⟨ha, by omega, c2⟩] at h1
      have hp := pr_in ha.1.1 (by omega : t 0 < 7) ha.2.1.1 (by omega : t 1 < 7)
      refine sp_pairOf ⟨ha.1.1, by omega⟩ ⟨ha.2.1.1, by omega⟩ ⟨hp, ?_⟩
      intro s1 e1
      have hF : Fr [v + 3] σ s1 := by rw [e1]; exact Fr.I (by simp) _ _
      have nk : ∀ j, ¬ j = v + 3 → j ∉ [v + 3] := fun j hj => by simp; omega
      refine h1 _ rfl s1 (hF.mono (fun k hk => vks_i (by simp at hk; omega) (by simp at hk; omega))) ⟨⟨?_, ?_, ?_⟩, fun i i1 i2 => ?_, fun p p1 p2 => ?_⟩
      · rw [hF.gI (nk _ (by omega))]; exact d1
      · rw [hF.gI (nk _ (by omega))]; exact d2
      · rw [hF.gI (nk _ (by omega))]; exact d3
      · rw [hF.gI (nk _ (by omega)), hF.gI (nk _ (by omega))]; exact d4 i i1 i2
      · refine ⟨?_, fun x => by rw [hF.gI (nk _ (by omega)), hF.gI (nk _ (by omega))]; exact (d5 p p1 p2).2 x⟩
        show _ = if p = pr (t 0) (t 1) then t 2 else dW d p
        rw [e1]
        by_cases e : p = pr (t 0) (t 1)
        · rw [if_pos e, e, gI_eq]
        · rw [if_neg e, gI_nj e]
          exact (d5 p p1 p2).1
    · rw [if_neg (fun q => by omega)] at h0; exact h0 rfl σ Fr.rf
    · rw [if_neg (fun q => ha q.1)] at h0; exact h0 rfl σ Fr.rf
  · rw [if_neg e0, if_neg e1, if_neg e2, if_neg e3, if_neg e4] at h0
    exact h0 rfl σ Fr.rf
