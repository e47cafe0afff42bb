/-! ===== the class reads a text, and lays it ===== -/
theorem sp_numbersOf {l : Int} {Q : Int → Prop} (h : Q (many l)) : wp_Reader_numbersOf l Q := by
  unfold wp_Reader_numbersOf
  unfold many at h
  refine ⟨fun e => ?_, fun e => ?_, fun e => ?_, fun e => ?_, fun e => ?_, fun e0 e1 e2 e3 e4 => ?_⟩
  · rw [if_pos e] at h; exact h
  · rw [if_neg (by omega), if_pos e] at h; exact h
  · rw [if_neg (by omega), if_neg (by omega), if_pos e] at h; exact h
  · rw [if_neg (by omega), if_neg (by omega), if_neg (by omega), if_pos e] at h; exact h
  · rw [if_neg (by omega), if_neg (by omega), if_neg (by omega), if_neg (by omega), if_pos e] at h; exact h
  · rw [if_neg e0, if_neg e1, if_neg e2, if_neg e3, if_neg e4] at h; exact h
theorem many_in (l : Int) : many l ≤ 4 := by
  unfold many
  split
  · omega
  · split
    · omega
    · split
      · omega
      · split
        · omega
        · split <;> omega
def rks (v : Nat) : List Nat := [15, 16, v, v + 1, v + 2, v + 3, v + 4, v + 5]
theorem rks_ {v k : Nat} (h : k ∈ rks v) : k = 15 ∨ k = 16 ∨ (v ≤ k ∧ k ≤ v + 5) := by
  unfold rks at h
  simp at h
  omega
theorem rks_i {v k : Nat} (h : k = 15 ∨ k = 16 ∨ (v ≤ k ∧ k ≤ v + 5)) : k ∈ rks v := by
  unfold rks
  simp
  omega
theorem sp_readInto {v : Nat} {σ : MS} {n : Int} {f : Int → Int} {Q : Int → MS → Prop} (hv : v = 1 ∨ v = 7) (hT : TH σ n f)
    (h : ∀ σ', Fr (rks v) σ σ' → ((prs (ltr n f) n 200 0 dt0).1 = -4 → DH σ' v (prs (ltr n f) n 200 0 dt0).2) → Q (prs (ltr n f) n 200 0 dt0).1 σ') : wp_Reader_readInto v σ Q := by
  unfold wp_Reader_readInto
  generalize hR : prs (ltr n f) n 200 0 dt0 = R at h
  refine sp_clear (fun s1 hF1 hD1 => ?_)
  intro s2 e2
  have hF2 : Fr (rks v) σ s2 := by
    rw [e2]
    exact (hF1.mono (fun k hk => rks_i (by have := vks_ hk; omega))).tr (Fr.I (rks_i (by omega)) _ _)
  have hD2 : DH s2 v dt0 := by
    rw [e2]
    exact hD1.fr (Fr.I (ks := [15]) (by decide) _ _) (fun k hk => by simp at hk; omega)
  refine ⟨(fun x s => 0 ≤ x ∧ x ≤ 200 ∧ Fr (rks v) σ s ∧ ∃ d p, DH s v d ∧ WFD d ∧ gI s 15 1 = p ∧ (x ≤ p ∧ p ≤ 213) ∧ prs (ltr n f) n (200 - x).toNat p d = R), (fun x _ => (200 - x).toNat), ⟨by omega, by omega, hF2, dt0, 0, hD2, WFD0, by rw [e2, gI_eq], ⟨by omega, by omega⟩, hR⟩, ?_⟩
  rintro x1 s3 ⟨g0, g1, hF, d, p, hD, hd, ep, ⟨b1, b2⟩, hr⟩
  have nT : ∀ k ∈ rks v, ¬ k = 13 ∧ ¬ k = 14 := fun k hk => by have := rks_ hk; omega
  have hT3 := hT.fr hF nT
  rw [ep, hT3.1]
  have hn := hT.2.1
  refine ⟨⟨by omega, by omega⟩, fun c => ?_, fun c => ⟨fun c2 => ?_, fun c2 => ?_⟩⟩
  · rw [show (200 - x1).toNat = 0 by omega] at hr
    unfold prs at hr
    have q := h s3 hF (fun _ => by rw [← hr]; exact hD)
    rw [← hr] at q
    exact q
  · have hr' : ((-4 : Int), d) = R := by
      cases hk : (200 - x1).toNat with
      | zero => rw [hk] at hr; exact hr
      | succ k =>
        rw [hk] at hr
        unfold prs at hr
        rw [if_pos c2] at hr
        exact hr
    have q := h s3 hF (fun _ => by rw [← hr']; exact hD)
    rw [← hr'] at q
    exact q
  · rw [show (200 - x1).toNat = (199 - x1).toNat + 1 by omega] at hr
    unfold prs item at hr
    rw [if_neg c2] at hr
    refine sp_at hT3 (sp_numbersOf (sp_readNumbers hT3 (many_in _) ep ⟨by omega, by omega⟩ (fun hm => ⟨fun _ => ?_, fun q => absurd rfl q⟩) (fun hm hnn s4 hF4 => ⟨fun _ => ?_, fun q => absurd rfl q⟩) (fun hm t q hnn s4 hF4 h4 h4b ht => ⟨fun q => absurd q (by decide), fun _ => ?_⟩)))
    · rw [if_pos hm] at hr
      have q := h s3 hF (fun q => by rw [← hr] at q; exact absurd q (by show ¬ p = -4; omega))
      rw [← hr] at q
      exact q
    · rw [if_neg hm, hnn] at hr
      have hF' : Fr (rks v) σ s4 := hF.tr (hF4.mono (fun k hk => rks_i (by simp at hk; omega)))
      have q := h s4 hF' (fun q => by rw [← hr] at q; exact absurd q (by show ¬ p = -4; omega))
      rw [← hr] at q
      exact q
    · rw [if_neg hm, hnn] at hr
      have hF' : Fr (rks v) σ s4 := hF.tr (hF4.mono (fun k hk => rks_i (by simp at hk; omega)))
      have hni := nums_in hnn (fun _ => ⟨Int.le_refl 0, by decide⟩)
      have hD4 := hD.fr hF4 (fun k hk => by simp at hk; omega)
      refine sp_told hv hD4 hd (fun i i1 i2 => ht i i1 i2) hni.1 (fun htl s5 hF5 => ⟨fun q => absurd rfl q, fun _ => ?_⟩) (fun d' htl s5 hF5 hD5 => ⟨fun _ x2 e2 => ?_, fun q => absurd q (by decide)⟩)
      · simp only [htl] at hr
        have hF'' : Fr (rks v) σ s5 := hF'.tr (hF5.mono (fun k hk => rks_i (by have := vks_ hk; omega)))
        have q := h s5 hF'' (fun q => by rw [← hr] at q; exact absurd q (by show ¬ p = -4; omega))
        rw [← hr] at q
        exact q
      · simp only [htl] at hr
        have hF'' : Fr (rks v) σ s5 := hF'.tr (hF5.mono (fun k hk => rks_i (by have := vks_ hk; omega)))
        refine ⟨⟨by omega, by omega, hF'', d', q, hD5, tl_in htl hni.1 hd, ?_, ⟨by omega, by omega⟩, ?_⟩, by dsimp only; omega⟩
        · rw [hF5.gI (fun z => by have := vks_ z; omega)]; exact h4
        · rw [show (200 - x2).toNat = (199 - x1).toNat by omega]; exact hr
theorem CI.th {σ : MS} {A : AT} {B : Int} (h : CI σ A) (hW : WF B A) : TH σ (aTn A) (aTl A) := by
  obtain ⟨-, -, -, -, -, w1, w2, w3⟩ := hW
  obtain ⟨h1, h2⟩ := h.2.2.2.2.2.2
  exact ⟨h1, ⟨w1, w2⟩, fun i i1 i2 => ⟨h2 i i1 i2, w3 i i1 i2⟩⟩
/-- reading into the draft leaves all as it stands -/
theorem CI.rd {σ σ' : MS} {A : AT} (h : CI σ A) (hF : Fr (rks (gR σ 0 1)) σ σ') : CI σ' A := by
  obtain ⟨⟨h1, h1b, h1c, h1d⟩, h2, h3, h4, h5, h6, h7⟩ := h
  have nk : ∀ k ∈ rks (gR σ 0 1), k = 15 ∨ k = 16 ∨ (gR σ 0 1 ≤ k ∧ k ≤ gR σ 0 1 + 5) := fun k hk => rks_ hk
  have n0 : 0 ∉ rks (gR σ 0 1) := fun q => by have := nk _ q; omega
  have n17 : 17 ∉ rks (gR σ 0 1) := fun q => by have := nk _ q; omega
  have n18 : 18 ∉ rks (gR σ 0 1) := fun q => by have := nk _ q; omega
  have n19 : 19 ∉ rks (gR σ 0 1) := fun q => by have := nk _ q; omega
  have nv : ∀ k, gR σ 0 0 ≤ k → k ≤ gR σ 0 0 + 5 → k ∉ rks (gR σ 0 1) := fun k k1 k2 q => by have := nk _ q; omega
  refine ⟨⟨by rw [hF.gR n0, hF.gR n0]; exact h1, by rw [hF.gR n17, hF.gR n0]; exact h1b, ?_, ?_⟩, h2.fr hF (fun k hk => by have := nk k hk; omega), h3.fr hF (fun k hk => by have := nk k hk; omega), h4.fr hF (fun k hk => by have := nk k hk; omega), h5.fr hF (fun k hk => by have := nk k hk; omega), h6.fr hF (fun k hk => by have := nk k hk; omega), h7.fr hF (fun k hk => by have := nk k hk; omega)⟩
  · obtain ⟨q1, q2, q3, q4⟩ := h1c
    refine ⟨by rw [hF.gR n17]; exact q1, ?_, q3, fun d d1 d2 => ?_⟩
    · rw [hF.gR n17, h1b, vC_cong (σ := σ) (fun k k1 k2 j => hF.gI (nv k k1 k2) j), ← h1b]
      exact q2
    · rw [hF.gL n19]
      rcases q4 d d1 d2 with q | q
      · exact Or.inl q
      · exact Or.inr (fun a b a1 a2 b1 b2 => by rw [hF.gI n18]; exact q a b a1 a2 b1 b2)
  · intro p p1 p2
    rw [hF.gR n0, hF.gI (nv _ (by omega) (by omega)), hF.gI (nv _ (by omega) (by omega))]
    exact h1d p p1 p2
theorem sp_B_fault {σ : MS} {A : AT} {B : Int} {Q : Int → MS → Prop} (hC : CI σ A) (hW : WF B A) (h : ∀ σ', CI σ' A → Q (fFault A) σ') : wp_B_fault σ Q := by
  unfold wp_B_fault
  have hv : gR σ 0 1 = 1 ∨ gR σ 0 1 = 7 := by have := hC.1.1; omega
  exact sp_readInto hv (hC.th hW) (fun σ' hF _ => h σ' (hC.rd hF))
theorem shOK_0 : shOK 0 := by
  refine ⟨by decide, by decide, fun p p1 p2 hp => ?_⟩
  unfold shb at hp
  rw [lshr_0] at hp
  exact absurd hp (by decide)
/-- what laying needs of the class: not its valley -/
theorem sp_layText {σ : MS} {n : Int} {f : Int → Int} {Q : Int → MS → Prop} (hv : (gR σ 0 0 = 1 ∧ gR σ 0 1 = 7) ∨ (gR σ 0 0 = 7 ∧ gR σ 0 1 = 1)) (hT : TH σ n f) (hr : rowsOK σ) (hk : gR σ 24 0 = 56 ∧ gR σ 24 1 = 58)
    (h0 : ¬ ((prs (ltr n f) n 200 0 dt0).1 = -4 ∧ dB (prs (ltr n f) n 200 0 dt0).2 < dN (prs (ltr n f) n 200 0 dt0).2) → ∀ σ', Fr (rks (gR σ 0 1)) σ σ' → Q 0 σ')
    (h1 : ((prs (ltr n f) n 200 0 dt0).1 = -4 ∧ dB (prs (ltr n f) n 200 0 dt0).2 < dN (prs (ltr n f) n 200 0 dt0).2) → ∀ σ', (∀ uf kf eh ed, CI σ' (vOf (prs (ltr n f) n 200 0 dt0).2, st0 (dB (prs (ltr n f) n 200 0 dt0).2), (0, uf), (0, kf), (0, eh, ed), (n, f))) → (∀ j, ¬ j = 4 → ¬ j = 5 → gI σ' 17 j = gI σ 17 j) → Q 1 σ') : wp_B_layText σ Q := by
  have hv1 : gR σ 0 1 = 1 ∨ gR σ 0 1 = 7 := by omega
  unfold wp_B_layText
  have hdW : WFD (prs (ltr n f) n 200 0 dt0).2 := prs_in 200 WFD0
  refine sp_readInto hv1 hT (fun s1 hF1 hD1 => ?_)
  generalize prs (ltr n f) n 200 0 dt0 = R at *
  have nk : ∀ k ∈ rks (gR σ 0 1), k = 15 ∨ k = 16 ∨ (gR σ 0 1 ≤ k ∧ k ≤ gR σ 0 1 + 5) := fun k hk => rks_ hk
  have n0 : 0 ∉ rks (gR σ 0 1) := fun q => by have := nk _ q; omega
  refine ⟨fun c => h0 (fun q => c q.1) s1 hF1, fun c => ?_⟩
  have hD := hD1 c
  rw [hF1.gR n0]
  refine hasC hD.1.1 (fun hb => ⟨fun _ => ?_, fun q => absurd q (by decide)⟩) (fun hb => ⟨fun q => absurd rfl q, fun _ => h0 (fun q => hb ?_) s1 hF1⟩)
  rotate_left
  · rw [hD.1.2.1]
    exact ⟨hdW.2.1.1, q.2⟩
  rw [hD.1.2.1] at hb
  intro s2 e2 s3 e3
  have a0 : gR s3 0 0 = gR σ 0 1 := by rw [e3, gR_nj (by decide), e2, gR_eq]
  have a1 : gR s3 0 1 = gR σ 0 0 := by rw [e3, gR_eq, hF1.gR n0]
  have hF3 : Fr [0] s1 s3 := by rw [e3, e2]; exact (Fr.R (by decide) _ _).tr (Fr.R (by decide) _ _)
  have i3 : ∀ k j, gI s3 k j = gI s1 k j := fun k j => by rw [e3, e2]; rfl
  have hD3 : DH s3 (gR σ 0 1) R.2 := hD.fr hF3 (fun k hk => by simp at hk; omega)
  have hW : WFV (vOf R.2) := WFV_of hdW hb.2
  rw [a0]
  refine sp_settle (V := vOf R.2) hv1 (hD3.eqV hdW) hW (fun s4 hF4 h17 hN4 hR4 => ?_)
  intro s5 e5
  have hF5 : Fr [25] s4 s5 := by rw [e5]; exact Fr.I (by decide) _ _
  have b0 : gR s5 0 0 = gR σ 0 1 := by rw [hF5.gR (by decide), hF4.gR (by decide), a0]
  have hD5 : DH s5 (gR σ 0 1) R.2 := (hD3.fr hF4 (fun k hk => by simp at hk; omega)).fr hF5 (fun k hk => by simp at hk; omega)
  rw [b0, hD5.1.2.1]
  refine sp_begin (fun s6 hF6 hS6 hL6 => ?_)
  intro s7 e7 s8 e8 s9 e9
  have hF9 : Fr [0, 21, 23] s6 s9 := by
    rw [e9, e8, e7]
    exact ((Fr.I (by decide) _ _).tr (Fr.I (by decide) _ _)).tr (Fr.I (by decide) _ _)
  have r9 : ∀ k j, gR s9 k j = gR s6 k j := fun k j => by rw [e9, e8, e7]; rfl
  have hFF : Fr [17, 19, 25, 36, 37, 0, 21, 23] s3 s9 := by
    refine (((hF4.mono ?_).tr (hF5.mono ?_)).tr (hF6.mono ?_)).tr (hF9.mono ?_) <;> decide
  have n22 : 22 ∉ rks (gR σ 0 1) := fun q => by have := nk _ q; omega
  have n24 : 24 ∉ rks (gR σ 0 1) := fun q => by have := nk _ q; omega
  have e22 : ∀ j, gR s9 22 j = gR σ 22 j := fun j => by rw [hFF.gR (by decide), hF3.gR (by decide), hF1.gR n22]
  have e24 : ∀ j, gR s9 24 j = gR σ 24 j := fun j => by rw [hFF.gR (by decide), hF3.gR (by decide), hF1.gR n24]
  have r0 : gR s9 0 0 = gR σ 0 1 := by rw [r9, hF6.gR (by decide), b0]
  have r1 : gR s9 0 1 = gR σ 0 0 := by rw [r9, hF6.gR (by decide), hF5.gR (by decide), hF4.gR (by decide), a1]
  have r17 : gR s9 17 2 = gR σ 0 1 := by rw [hF9.gR (by decide), hF6.gR (by decide), hF5.gR (by decide), hR4]
  have hT9 : TH s9 n f := ((hT.fr hF1 (fun k hk => by have := nk k hk; omega)).fr hF3 (by decide)).fr hFF (by decide)
  have hD9 : DH s9 (gR σ 0 1) R.2 := hD3.fr hFF (fun k hk => by simp at hk; omega)
  refine h1 ⟨c, hb.2⟩ s9 (fun uf kf eh ed => ⟨⟨by rw [r0, r1]; omega, by rw [r17, r0], ?_, ?_⟩, ⟨?_, ?_⟩, ⟨⟨Int.le_refl 0, by show (0 : Int) ≤ 8; omega⟩, ?_, ⟨fun i i1 i2 => by rw [e22]; exact hr.1 i i1 i2, fun i j i1 i2 j1 j2 => by rw [e22, e22]; exact hr.2 i j i1 i2 j1 j2⟩, fun i i1 i2 => ?_⟩, ⟨⟨Int.le_refl 0, by show (0 : Int) ≤ 2; omega⟩, ?_, ⟨by rw [e24]; exact hk.1, by rw [e24]; exact hk.2⟩, fun i i1 i2 => ?_⟩, Or.inl ?_, ⟨?_, fun i i1 i2 => ?_⟩, hT9.1, fun i i1 i2 => (hT9.2.2 i i1 i2).1⟩) (fun j j4 j5 => ?_)
  · have hN5 := hN4.Fr hF5 (by decide)
    have hN6 := hN5.Fr hF6 (by decide)
    exact hN6.Fr hF9 (by decide)
  · rw [r0]; exact hD9.wayOK hdW
  · rw [stC_Fr hF9 (by decide)]; exact hS6
  · rw [hF9.gL (by decide), hL6]; exact shOK_0
  · rw [e9, gI_nk (by decide), e8, gI_nk (by decide), e7, gI_eq]; rfl
  · have i3 : i < 0 := i2; omega
  · rw [e9, gI_nk (by decide), e8, gI_eq]; rfl
  · have i3 : i < 0 := i2; omega
  · rw [hF9.gI (by decide), hF6.gI (by decide), e5, gI_eq]
  · rw [e9, gI_eq]; rfl
  · have i3 : i < 0 := i2; omega
  · have n17 : 17 ∉ rks (gR σ 0 1) := fun q => by have := nk _ q; omega
    rw [hF9.gI (by decide), hF6.gI (by decide), hF5.gI (by decide), h17, i3, hF1.gI n17]
theorem sp_B_lay {σ : MS} {A : AT} {B : Int} {Q : Int → MS → Prop} (hC : CI σ A) (hW : WF B A) (h : ∀ σ', CI σ' (nLay A) → Q (fLay A) σ') : wp_B_lay σ Q := by
  unfold wp_B_lay
  unfold nLay fLay at h
  refine sp_layText hC.1.1 (hC.th hW) hC.2.2.1.2.2.1 hC.2.2.2.1.2.2.1 (fun q σ' hF => ⟨fun _ => ?_, fun z => absurd rfl z⟩) (fun q σ' hC' _ => ⟨fun z => absurd z (by decide), fun _ => ?_⟩)
  · have z := h σ'
    rw [if_neg (show ¬ layOK A from q), if_neg (show ¬ layOK A from q)] at z
    exact z (hC.rd hF)
  · have z := h σ'
    rw [if_pos (show layOK A from q), if_pos (show layOK A from q)] at z
    have c := hC' (aUf A) (aKf A) (aEh A) (aEd A)
    have e := c.n
    rw [e]
    exact z c
