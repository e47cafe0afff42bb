/-! ===== the model: fault, lay ===== -/
theorem sp_faultOf {σ : MS} {n : Int} {f : Int → Int} {Q : Int → MS → Prop} (hT : TM σ n f)
    (h : ∀ σ', RF σ σ' → ((prs (ltr n f) n 200 0 dt0).1 = -4 → DM σ' (prs (ltr n f) n 200 0 dt0).2) → Q (prs (ltr n f) n 200 0 dt0).1 σ') : wp_M_faultOf σ Q := by
  have hn := hT.2.1
  unfold wp_M_faultOf
  generalize hR : prs (ltr n f) n 200 0 dt0 = R at h
  refine sp_anew (fun s1 hR1 hD1 => ?_)
  intro s2 e2
  have hN2 : NF s1 s2 := by rw [e2]; exact NF.rf.w0 _
  refine ⟨(fun s => RF σ s ∧ ∃ d p, ∃ k : Nat, DM s d ∧ WFD d ∧ gI s 0 2 = p ∧ (0 ≤ p ∧ p ≤ 213) ∧ 200 ≤ p + k ∧ prs (ltr n f) n k p d = R), (fun s => (213 - gI s 0 2).toNat), ⟨hR1.tr hN2.R, dt0, 0, 200, hD1.nf hN2, WFD0, by rw [e2, gI_eq], by omega, by omega, hR⟩, ?_⟩
  rintro s3 ⟨hR3, d, p, k, hD, hd, ep, hp, hk, hr⟩
  have hT3 := hT.rf hR3
  rw [hT3.1, ep]
  refine ⟨fun c => ?_, fun c => ?_⟩
  · have hr' : ((-4 : Int), d) = R := by
      cases k with
      | zero => exact hr
      | succ k =>
        unfold prs at hr
        rw [if_pos c] at hr
        exact hr
    have q := h s3 hR3 (fun _ => by rw [← hr']; exact hD)
    rw [← hr'] at q
    exact q
  · obtain ⟨k', rfl⟩ : ∃ k', k = k' + 1 := ⟨k - 1, by omega⟩
    unfold prs at hr
    rw [if_neg c] at hr
    refine sp_readsItem hT3 ep ⟨hp.1, by omega⟩ hD hd (fun hi s4 hR4 => ⟨fun z => absurd rfl z, fun _ => ?_⟩) (fun q d' hi s4 hR4 h4 h4b hD4 => ⟨fun _ => ?_, fun z => absurd z (by decide)⟩)
    · simp only [hi] at hr
      have q := h s4 (hR3.tr hR4) (fun z => by rw [← hr] at z; exact absurd z (by show ¬ p = -4; omega))
      rw [← hr] at q
      exact q
    · simp only [hi] at hr
      have hin := item_in hi hd
      exact ⟨⟨hR3.tr hR4, d', q, k', hD4, hin.1, h4, by omega, by omega, hr⟩, by dsimp only; rw [h4, ep]; omega⟩
theorem MI.th {σ : MS} {A : AT} {B : Int} (h : MI σ A) (hW : WF B A) : TM σ (aTn A) (aTl A) := by
  obtain ⟨-, -, -, -, -, w1, w2, w3⟩ := hW
  obtain ⟨h1, h2⟩ := h.2.2.2.2.2
  exact ⟨h1, ⟨w1, w2⟩, fun i i1 i2 => ⟨h2 i i1 i2, w3 i i1 i2⟩⟩
theorem MI.rd {σ σ' : MS} {A : AT} (h : MI σ A) (hF : RF σ σ') : MI σ' A := by
  have e : ∀ k, (k = 1 ∨ 8 ≤ k) → ∀ j, gI σ' k j = gI σ k j := fun k hk j => hF.1.gI (by simp; omega) j
  have o : ∀ j, (j = 0 ∨ 12 ≤ j) → gI σ' 0 j = gI σ 0 j := fun j hj => hF.2 j (by omega)
  obtain ⟨h1, ⟨h2, h2b⟩, ⟨h3, h3b, h3c, h3d⟩, ⟨h4, h4b, h4c⟩, ⟨h5, h5b⟩, h6, h6b⟩ := h
  refine ⟨h1.fr (fun k hk => e k (by omega)) (o 12 (by omega)) (o 13 (by omega)), ⟨by rw [funext (e 13 (by omega))]; exact h2, by rw [e 13 (by omega)]; exact h2b⟩, ⟨h3, by rw [o 22 (by omega)]; exact h3b, by rw [o 23 (by omega)]; exact h3c, fun i i1 i2 => ?_⟩, ⟨h4, by rw [o 31 (by omega)]; exact h4b, fun i i1 i2 => ?_⟩, ⟨by rw [o 27 (by omega)]; exact h5, fun i i1 i2 => ?_⟩, by rw [o 0 (by omega)]; exact h6, fun i i1 i2 => ?_⟩
  · rw [o 23 (by omega)]; simp only [e 16 (by omega)]; exact h3d i i1 i2
  · simp only [e 22 (by omega)]; exact h4c i i1 i2
  · simp only [e 19 (by omega)]; exact h5b i i1 i2
  · rw [e 1 (by omega)]; exact h6b i i1 i2
theorem sp_M_fault {σ : MS} {A : AT} {B : Int} {Q : Int → MS → Prop} (hC : MI σ A) (hW : WF B A) (h : ∀ σ', MI σ' A → Q (fFault A) σ') : wp_M_fault σ Q := by
  unfold wp_M_fault
  exact sp_faultOf (hC.th hW) (fun σ' hF _ => h σ' (hC.rd hF))
theorem MO0 : MO 0 := ⟨by decide, by decide⟩
/-- what laying leaves, whatever was held -/
theorem sp_laid {σ : MS} {d : DT} {n : Int} {f : Int → Int} {Q : MS → Prop} (hD : DM σ d) (hd : WFD d) (hb : dB d < dN d) (hT : TM σ n f) (h23 : 0 ≤ gI σ 0 23 ∧ gI σ 0 23 < 8)
    (h : ∀ σ', (∀ uf kf eh ed, MI σ' (vOf d, st0 (dB d), (0, uf), (0, kf), (0, eh, ed), (n, f))) → Q σ') : wp_M_laid σ Q := by
  obtain ⟨⟨d1, d2, d3⟩, d4, d5⟩ := hD
  have hn := hd.1
  unfold wp_M_laid
  rw [d1]
  intro s1 e1
  have k1 : gI s1 0 5 = dM d := by rw [e1, gI_nj (by decide)]; exact d3
  rw [k1]
  intro s2 e2
  have hF2 : Fr [0] σ s2 := by rw [e2, e1]; exact (Fr.I (by decide) _ _).tr (Fr.I (by decide) _ _)
  have a12 : gI s2 0 12 = dN d := by rw [e2, gI_nj (by decide), e1, gI_eq]
  have a13 : gI s2 0 13 = dM d := by rw [e2, gI_eq]
  have ao : ∀ j, ¬ j = 12 → ¬ j = 13 → gI s2 0 j = gI σ 0 j := fun j j1 j2 => by rw [e2, gI_nj j2, e1, gI_nj j1]
  clear e1 e2
  refine ⟨(fun x s => 0 ≤ x ∧ x ≤ 7 ∧ Fr [8, 9] s2 s ∧ ∀ i, 0 ≤ i → i < x → gI s 8 i = gI σ 2 i ∧ gI s 9 i = gI σ 3 i), (fun x _ => (7 - x).toNat), ⟨by omega, by omega, Fr.rf, fun i i1 i2 => by omega⟩, ?_⟩
  rintro x1 s3 ⟨g0, g1, hF3, hv3⟩
  refine ⟨⟨by omega, by omega⟩, fun c => ?_, fun c => ⟨⟨by omega, by omega⟩, fun s15 e15 s16 e16 x6 e6 => ⟨⟨by omega, by omega, by rw [e16, e15]; exact (hF3.tr (Fr.I (by decide) _ _)).tr (Fr.I (by decide) _ _), fun i i1 i2 => ?_⟩, by dsimp only; omega⟩⟩⟩
  rotate_left
  · have q3 : gI s15 3 x1 = gI σ 3 x1 := by rw [e15, gI_nk (by decide), hF3.gI (by decide), hF2.gI (by decide)]
    have q2 : gI s3 2 x1 = gI σ 2 x1 := by rw [hF3.gI (by decide), hF2.gI (by decide)]
    rw [q3] at e16
    rw [q2] at e15
    rw [e16, gI_nk (by decide), e15]
    by_cases e : i = x1
    · rw [e, gI_eq, gI_eq]; exact ⟨rfl, rfl⟩
    · rw [gI_nj e, gI_nj e, gI_nk (by decide)]; exact hv3 i i1 (by omega)
  refine ⟨(fun x s => 0 ≤ x ∧ x ≤ 49 ∧ Fr [10, 11, 12] s3 s ∧ ∀ i, 0 ≤ i → i < x → gI s 10 i = gI σ 4 i ∧ gI s 11 i = gI σ 5 i ∧ gI s 12 i = gI σ 6 i), (fun x _ => (49 - x).toNat), ⟨by omega, by omega, Fr.rf, fun i i1 i2 => by omega⟩, ?_⟩
  rintro x2 s4 ⟨g2, g3, hF4, hv4⟩
  have old : ∀ k, (2 ≤ k ∧ k ≤ 6) → ∀ s, Fr [10, 11, 12] s3 s → ∀ j, gI s k j = gI σ k j := fun k hk s hF j => by rw [hF.gI (by simp; omega), hF3.gI (by simp; omega), hF2.gI (by simp; omega)]
  refine ⟨⟨by omega, by omega⟩, fun c2 => ?_, fun c2 => ⟨⟨by omega, by omega⟩, fun s12 e12 s13 e13 s14 e14 x5 e5 => ⟨⟨by omega, by omega, by rw [e14, e13, e12]; exact ((hF4.tr (Fr.I (by decide) _ _)).tr (Fr.I (by decide) _ _)).tr (Fr.I (by decide) _ _), fun i i1 i2 => ?_⟩, by dsimp only; omega⟩⟩⟩
  rotate_left
  · have q4 : gI s4 4 x2 = gI σ 4 x2 := old 4 (by omega) s4 hF4 x2
    have q5 : gI s12 5 x2 = gI σ 5 x2 := by rw [e12, gI_nk (by decide)]; exact old 5 (by omega) s4 hF4 x2
    have q6 : gI s13 6 x2 = gI σ 6 x2 := by rw [e13, gI_nk (by decide), e12, gI_nk (by decide)]; exact old 6 (by omega) s4 hF4 x2
    rw [q4] at e12
    rw [q5] at e13
    rw [q6] at e14
    rw [e14, gI_nk (by decide), gI_nk (by decide), e13, gI_nk (by decide), e12]
    by_cases e : i = x2
    · rw [e, gI_eq, gI_eq, gI_eq]; exact ⟨rfl, rfl, rfl⟩
    · rw [gI_nj e, gI_nj e, gI_nj e, gI_nk (by decide), gI_nk (by decide), gI_nk (by decide)]; exact hv4 i i1 (by omega)
  refine ⟨(fun x s => 0 ≤ x ∧ x ≤ 13 ∧ Fr [13] s4 s ∧ ∀ i, 0 ≤ i → i < x → gI s 13 i = 0), (fun x _ => (13 - x).toNat), ⟨by omega, by omega, Fr.rf, fun i i1 i2 => by omega⟩, ?_⟩
  rintro x3 s5 ⟨g4, g5, hF5, hv5⟩
  refine ⟨⟨by omega, by omega⟩, fun c3 => ?_, fun c3 => ⟨⟨by omega, by omega⟩, fun s11 e11 x4 e4 => ⟨⟨by omega, by omega, by rw [e11]; exact hF5.tr (Fr.I (by decide) _ _), fun i i1 i2 => ?_⟩, by dsimp only; omega⟩⟩⟩
  rotate_left
  · by_cases e : i = x3
    · rw [e11, e, gI_eq]
    · rw [e11, gI_nj e]; exact hv5 i i1 (by omega)
  have b4 : gI s5 0 4 = dB d := by rw [hF5.gI (by decide), hF4.gI (by decide), hF3.gI (by decide), ao 4 (by decide) (by decide)]; exact d2
  rw [b4]
  intro s6 e6
  have b46 : gI s6 0 4 = dB d := by rw [e6, gI_nk (by decide)]; exact b4
  rw [b46]
  intro s7 e7 s8 e8 s9 e9 s10 e10
  have o0 : ∀ j, ¬ j = 22 → ¬ j = 31 → ¬ j = 27 → gI s10 0 j = gI s2 0 j := fun j j1 j2 j3 => by
    rw [e10, gI_nj j3, e9, gI_nj j2, e8, gI_nj j1, e7, gI_nk (by decide), e6, gI_nk (by decide), hF5.gI (by decide), hF4.gI (by decide), hF3.gI (by decide)]
  have r13 : ∀ j, gI s10 13 j = gI s7 13 j := fun j => by rw [e10, gI_nk (by decide), e9, gI_nk (by decide), e8, gI_nk (by decide)]
  have v13 : ∀ j, 0 ≤ j → j < 13 → gI s10 13 j = if j = 5 then ishl 1 (dB d) else if j = 0 then dB d else 0 := by
    intro j j1 j2
    rw [r13, e7]
    by_cases z : j = 5
    · rw [z, gI_eq, if_pos rfl]
    · rw [gI_nj z, if_neg z, e6]
      by_cases w : j = 0
      · rw [w, gI_eq, if_pos rfl]
      · rw [gI_nj w, if_neg w]; exact hv5 j j1 (by omega)
  have up : ∀ k, ¬ k = 0 → ¬ k = 13 → ∀ j, gI s10 k j = gI s5 k j := fun k k0 k13 j => by
    rw [e10, gI_nk k0, e9, gI_nk k0, e8, gI_nk k0, e7, gI_nk k13, e6, gI_nk k13]
  have r8 : ∀ i, 0 ≤ i → i < dN d → gI s10 8 i = dK d i ∧ gI s10 9 i = dL d i := by
    intro i i1 i2
    obtain ⟨q1, q2⟩ := hv3 i i1 (by omega)
    rw [up 8 (by decide) (by decide), up 9 (by decide) (by decide), hF5.gI (by decide), hF5.gI (by decide), hF4.gI (by decide), hF4.gI (by decide), q1, q2]
    exact d4 i i1 i2
  have r10 : ∀ a b, 0 ≤ a → a < 7 → 0 ≤ b → b < 7 → gI s10 10 (7 * a + b) = gI σ 4 (7 * a + b) ∧ gI s10 11 (7 * a + b) = gI σ 5 (7 * a + b) ∧ gI s10 12 (7 * a + b) = gI σ 6 (7 * a + b) := by
    intro a b a1 a2 b1 b2
    rw [up 10 (by decide) (by decide), up 11 (by decide) (by decide), up 12 (by decide) (by decide), hF5.gI (by decide), hF5.gI (by decide), hF5.gI (by decide)]
    exact hv4 _ (by omega) (by omega)
  have c12 : gI s10 0 12 = dN d := by rw [o0 12 (by decide) (by decide) (by decide)]; exact a12
  have c13 : gI s10 0 13 = dM d := by rw [o0 13 (by decide) (by decide) (by decide)]; exact a13
  have hV : vM s10 = vOf d := by
    unfold vM vOf
    rw [c12, c13]
    have e1 : (fun h => if 0 ≤ h ∧ h < dN d then gI s10 8 h else 0) = fun h => if 0 ≤ h ∧ h < dN d then dK d h else 0 := by
      funext i
      split
      · rename_i c; exact (r8 i c.1 c.2).1
      · rfl
    have e2 : (fun h => if 0 ≤ h ∧ h < dN d then gI s10 9 h else 0) = fun h => if 0 ≤ h ∧ h < dN d then dL d h else 0 := by
      funext i
      split
      · rename_i c; exact (r8 i c.1 c.2).2
      · rfl
    have e3 : (fun a b => if 0 ≤ a ∧ a < dN d ∧ 0 ≤ b ∧ b < dN d ∧ ¬ a = b then gI s10 10 (7 * a + b) else 0) = fun a b => if 0 ≤ a ∧ a < dN d ∧ 0 ≤ b ∧ b < dN d ∧ ¬ a = b then dW d (pr a b) else 0 := by
      funext a b
      split
      · rename_i c
        rw [(r10 a b c.1 (by omega) c.2.2.1 (by omega)).1, (d5 a b c.1 (by omega) c.2.2.1 (by omega)).1, if_neg c.2.2.2.2]
      · rfl
    have e4 : (fun x a b => decide (0 ≤ a ∧ a < dN d ∧ 0 ≤ b ∧ b < dN d ∧ ¬ a = b ∧ gI s10 11 (7 * a + b) ≤ x ∧ x ≤ gI s10 12 (7 * a + b))) = fun x a b => decide (0 ≤ a ∧ a < dN d ∧ 0 ≤ b ∧ b < dN d ∧ ¬ a = b ∧ dS d (pr a b) x = true) := by
      funext x a b
      by_cases c : 0 ≤ a ∧ a < dN d ∧ 0 ≤ b ∧ b < dN d ∧ ¬ a = b
      · have q := (d5 a b c.1 (by omega) c.2.2.1 (by omega)).2 c.2.2.2.2 x
        have w := r10 a b c.1 (by omega) c.2.2.1 (by omega)
        rw [← w.2.1, ← w.2.2] at q
        congr 1
        refine propext ⟨fun z => ⟨z.1, z.2.1, z.2.2.1, z.2.2.2.1, z.2.2.2.2.1, ?_⟩, fun z => ⟨z.1, z.2.1, z.2.2.1, z.2.2.2.1, z.2.2.2.2.1, ?_⟩⟩
        · rw [← q]; exact decide_eq_true z.2.2.2.2.2
        · have := z.2.2.2.2.2
          rw [← q] at this
          exact of_decide_eq_true this
      · rw [decide_eq_false (fun q => c ⟨q.1, q.2.1, q.2.2.1, q.2.2.2.1, q.2.2.2.2.1⟩), decide_eq_false (fun q => c ⟨q.1, q.2.1, q.2.2.1, q.2.2.2.1, q.2.2.2.2.1⟩)]
    rw [e1, e2, e3, e4]
  have c1 : ∀ i, gI s10 1 i = gI σ 1 i := fun i => by rw [up 1 (by decide) (by decide), hF5.gI (by decide), hF4.gI (by decide), hF3.gI (by decide), hF2.gI (by decide)]
  refine h s10 (fun uf kf eh ed => ⟨⟨⟨hV, WFV_of hd hb⟩, fun p p1 p2 hp => ?_⟩, ⟨?_, by rw [v13 4 (by decide) (by decide)]; exact MO0⟩, ⟨⟨Int.le_refl 0, by show (0 : Int) ≤ 8; omega⟩, ?_, by rw [o0 23 (by decide) (by decide) (by decide), ao 23 (by decide) (by decide)]; exact h23, fun i i1 i2 => ?_⟩, ⟨⟨Int.le_refl 0, by show (0 : Int) ≤ 2; omega⟩, ?_, fun i i1 i2 => ?_⟩, ⟨?_, fun i i1 i2 => ?_⟩, by rw [o0 0 (by decide) (by decide) (by decide), ao 0 (by decide) (by decide)]; exact hT.1, fun i i1 i2 => by rw [c1]; exact (hT.2.2 i i1 i2).1⟩)
  · have q := r10 (p / 7) (p % 7) (by omega) (by omega) (by omega) (by omega)
    have q2 := (d5 (p / 7) (p % 7) (by omega) (by omega) (by omega) (by omega)).1
    rw [← q.1, show 7 * (p / 7) + p % 7 = p by omega] at q2
    rw [q2] at hp
    by_cases z : p / 7 = p % 7
    · rw [if_pos z] at hp; exact absurd rfl hp
    · rw [if_neg z] at hp
      have := hd.2.2.2.2.2.2 _ hp
      show ¬ p / 7 = p % 7 ∧ p / 7 < dN d ∧ p % 7 < dN d
      unfold pr at this
      omega
  · show stR (gI s10 13) = st0 (dB d)
    unfold stR st0
    rw [v13 0 (by decide) (by decide), v13 1 (by decide) (by decide), v13 2 (by decide) (by decide), v13 3 (by decide) (by decide), v13 4 (by decide) (by decide), v13 5 (by decide) (by decide)]
    have esh : shM 0 = fun _ _ => false := by
      funext a b
      unfold shM
      rw [bit0]
      simp
    have esp : (fun h => if 0 ≤ h ∧ h < 7 then gI s10 13 (6 + h) else 0) = fun _ => 0 := by
      funext y
      split
      · rename_i c; rw [v13 _ (by omega) (by omega), if_neg (by omega), if_neg (by omega)]
      · rfl
    rw [esp]
    show mkS 0 (dB d) 0 0 (ishl 1 (dB d)) (shM 0) (fun _ => 0) = _
    rw [esh]
  · rw [e10, gI_nj (by decide), e9, gI_nj (by decide), e8, gI_eq]; rfl
  · have i3 : i < 0 := i2; omega
  · rw [e10, gI_nj (by decide), e9, gI_eq]; rfl
  · have i3 : i < 0 := i2; omega
  · rw [e10, gI_eq]; rfl
  · have i3 : i < 0 := i2; omega
theorem sp_M_lay {σ : MS} {A : AT} {B : Int} {Q : Int → MS → Prop} (hC : MI σ A) (hW : WF B A) (h : ∀ σ', MI σ' (nLay A) → Q (fLay A) σ') : wp_M_lay σ Q := by
  unfold wp_M_lay
  unfold nLay fLay at h
  have hT := hC.th hW
  have hd : WFD (rdT A).2 := prs_in 200 WFD0
  refine sp_faultOf hT (fun s1 hR hD => ?_)
  have hT1 := hT.rf hR
  have h23 : 0 ≤ gI s1 0 23 ∧ gI s1 0 23 < 8 := by rw [hR.2 23 (by decide)]; exact hC.2.2.1.2.2.1
  refine ⟨fun c => ?_, fun c => ?_⟩
  · have z := h s1
    rw [if_neg (show ¬ layOK A from fun q => c q.1), if_neg (show ¬ layOK A from fun q => c q.1)] at z
    exact z (hC.rd hR)
  · have hD := hD c
    rw [hD.1.1, hD.1.2.1]
    refine ⟨fun c2 => ?_, fun c2 => ?_⟩
    · refine sp_laid hD hd c2 hT1 h23 (fun s2 hM => ?_)
      have z := h s2
      rw [if_pos (show layOK A from ⟨c, c2⟩), if_pos (show layOK A from ⟨c, c2⟩)] at z
      have m := hM (aUf A) (aKf A) (aEh A) (aEd A)
      rw [m.n]
      exact z m
    · have z := h s1
      rw [if_neg (show ¬ layOK A from fun q => c2 q.2), if_neg (show ¬ layOK A from fun q => c2 q.2)] at z
      exact z (hC.rd hR)
