/-! ===== the model's calls: what was, what comes ===== -/
theorem sp_M_undo {σ : MS} {A : AT} {Q : Int → MS → Prop} (hC : MI σ A) (h : ∀ σ', MI σ' (nUndo A) → Q (fUndo A) σ') : wp_M_undo σ Q := by
  obtain ⟨h1, h2, ⟨h3, h3b, h3c, h3d⟩, h4, h5, h6⟩ := id hC
  unfold wp_M_undo
  unfold nUndo fUndo at h
  rw [h3b]
  refine ⟨fun c => ⟨⟨by omega, by omega⟩, ?_⟩, fun c => by rw [if_pos c, if_pos c] at h; exact h σ hC⟩
  rw [if_neg c, if_neg c] at h
  intro s1 e1
  have f22 : gI s1 0 22 = aUn A := by rw [e1, gI_nj (by decide)]; exact h3b
  rw [f22]
  refine ⟨⟨by omega, by omega⟩, ?_⟩
  intro s2 e2
  have hF2 : Fr [0] σ s2 := by rw [e2, e1]; exact (Fr.I (by decide) _ _).tr (Fr.I (by decide) _ _)
  have k22 : gI s2 0 22 = aUn A - 1 := by rw [e2, gI_eq]
  have k23 : gI s2 0 23 = slot (gI σ 0 23) (aUn A) (aUn A - 1) := by rw [e2, gI_nj (by decide), e1, gI_eq]; unfold slot; omega
  have ko : ∀ j, ¬ j = 22 → ¬ j = 23 → gI s2 0 j = gI σ 0 j := fun j j1 j2 => by rw [e2, gI_nj j1, e1, gI_nj j2]
  have hsl : 0 ≤ gI s2 0 23 ∧ gI s2 0 23 < 8 := by rw [k23]; unfold slot; omega
  refine ⟨(fun x s => 0 ≤ x ∧ x ≤ 13 ∧ Fr [13] s2 s ∧ ∀ j, 0 ≤ j → j < x → gI s 13 j = gI σ 16 (13 * gI s2 0 23 + j)), (fun x _ => (13 - x).toNat), ⟨by omega, by omega, Fr.rf, fun j j1 j2 => by omega⟩, ?_⟩
  rintro x1 s3 ⟨g0, g1, hF3, hv⟩
  have e0 := hF3.gI (k := 0) (by decide)
  rw [e0 22, e0 23]
  refine ⟨⟨by omega, by omega⟩, fun c2 => ?_, fun c2 => ⟨⟨by omega, by omega⟩, ⟨by omega, by omega⟩, fun s4 e4 x2 ex => ⟨⟨by omega, by omega, by rw [e4]; exact hF3.tr (Fr.I (by decide) _ _), fun j j1 j2 => ?_⟩, by dsimp only; omega⟩⟩⟩
  · rw [k22]
    obtain ⟨q1, q2⟩ := h3d (aUn A - 1) (by omega) (by omega)
    rw [← k23] at q1 q2
    have hFF : Fr [0, 13] σ s3 := (hF2.mono (by decide)).tr (hF3.mono (by decide))
    refine h s3 ⟨h1.fr (fun k hk => hFF.gI (by simp; omega)) (by rw [e0]; exact ko 12 (by decide) (by decide)) (by rw [e0]; exact ko 13 (by decide) (by decide)), ⟨?_, by rw [hv 4 (by decide) (by omega)]; exact q2⟩, ⟨⟨?_, ?_⟩, by rw [e0]; exact k22, by rw [e0]; exact hsl, fun i i1 i2 => ?_⟩, ⟨h4.1, by rw [e0, ko 31 (by decide) (by decide)]; exact h4.2.1, fun i i1 i2 => ?_⟩, ⟨by rw [e0, ko 27 (by decide) (by decide)]; exact h5.1, fun i i1 i2 => ?_⟩, by rw [e0, ko 0 (by decide) (by decide)]; exact h6.1, fun i i1 i2 => ?_⟩
    · rw [stR_cong (fun k k1 k2 => hv k k1 (by omega))]; exact q1
    · show 0 ≤ aUn A - 1; omega
    · show aUn A - 1 ≤ 8; omega
    · have i3 : i < aUn A - 1 := i2
      have es : slot (gI s3 0 23) (aUn A - 1) i = slot (gI σ 0 23) (aUn A) i := by rw [e0, k23]; unfold slot; omega
      have z := h3d i i1 (by omega)
      show stR (fun k => gI s3 16 (13 * slot (gI s3 0 23) (aUn A - 1) i + k)) = aUf A i ∧ MO (gI s3 16 (13 * slot (gI s3 0 23) (aUn A - 1) i + 4))
      rw [es]
      simp only [hFF.gI (k := 16) (by decide)]
      exact z
    · simp only [hFF.gI (k := 22) (by decide)]; exact h4.2.2 i i1 i2
    · simp only [hFF.gI (k := 19) (by decide)]; exact h5.2 i i1 i2
    · rw [hFF.gI (by decide)]; exact h6.2 i i1 i2
  · by_cases e : j = x1
    · rw [e4, e, gI_eq, hF3.gI (by decide), hF2.gI (by decide)]
    · rw [e4, gI_nj e]; exact hv j j1 (by omega)
theorem sp_M_keep {σ : MS} {A : AT} {Q : Int → MS → Prop} (hC : MI σ A) (h : ∀ σ', MI σ' (nKeep A) → Q (fKeep A) σ') : wp_M_keep σ Q := by
  obtain ⟨h1, h2, ⟨h3, h3b, h3c, h3d⟩, ⟨h4, h4b, h4c⟩, h5, h6⟩ := id hC
  unfold wp_M_keep
  unfold nKeep fKeep at h
  rw [h4b]
  refine ⟨fun c => ?_, fun c => by rw [if_pos c, if_pos c] at h; exact h σ hC⟩
  rw [if_neg c, if_neg c] at h
  refine ⟨(fun x s => 0 ≤ x ∧ x ≤ 13 ∧ Fr [22] σ s ∧ (∀ j, 0 ≤ j → j < x → gI s 22 (13 * aKn A + j) = gI σ 13 j) ∧ ∀ j, j < 13 * aKn A → gI s 22 j = gI σ 22 j), (fun x _ => (13 - x).toNat), ⟨by omega, by omega, Fr.rf, fun j j1 j2 => by omega, fun _ _ => rfl⟩, ?_⟩
  rintro x1 s1 ⟨g0, g1, hF, hv, ho⟩
  have e31 : gI s1 0 31 = aKn A := by rw [hF.gI (by decide)]; exact h4b
  rw [e31]
  refine ⟨⟨by omega, by omega⟩, fun c2 => ⟨⟨by omega, by omega⟩, fun s2 e2 => ?_⟩, fun c2 => ⟨⟨by omega, by omega⟩, ⟨by omega, by omega⟩, fun s3 e3 x2 ex => ⟨⟨by omega, by omega, by rw [e3]; exact hF.tr (Fr.I (by decide) _ _), fun j j1 j2 => ?_, fun j hj => ?_⟩, by dsimp only; omega⟩⟩⟩
  · have k31 : gI s2 0 31 = aKn A + 1 := by rw [e2, gI_eq]
    rw [k31]
    have hFF : Fr [0, 22] σ s2 := by rw [e2]; exact (hF.mono (by decide)).tr (Fr.I (by decide) _ _)
    have ko : ∀ j, ¬ j = 31 → gI s2 0 j = gI σ 0 j := fun j hj => by rw [e2, gI_nj hj, hF.gI (by decide)]
    have g22 : ∀ j, gI s2 22 j = gI s1 22 j := fun j => by rw [e2, gI_nk (by decide)]
    refine h s2 ⟨h1.fr (fun k hk => hFF.gI (by simp; omega)) (ko 12 (by decide)) (ko 13 (by decide)), ⟨by rw [funext (hFF.gI (k := 13) (by decide))]; exact h2.1, by rw [hFF.gI (by decide)]; exact h2.2⟩, ⟨h3, by rw [ko 22 (by decide)]; exact h3b, by rw [ko 23 (by decide)]; exact h3c, fun i i1 i2 => ?_⟩, ⟨⟨?_, ?_⟩, k31, fun i i1 i2 => ?_⟩, ⟨by rw [ko 27 (by decide)]; exact h5.1, fun i i1 i2 => ?_⟩, by rw [ko 0 (by decide)]; exact h6.1, fun i i1 i2 => ?_⟩
    · rw [ko 23 (by decide)]; simp only [hFF.gI (k := 16) (by decide)]; exact h3d i i1 i2
    · show 0 ≤ aKn A + 1; omega
    · show aKn A + 1 ≤ 2; omega
    · have i3 : i < aKn A + 1 := i2
      show stR (fun k => gI s2 22 (13 * i + k)) = (if i = aKn A then aS A else aKf A i) ∧ _
      by_cases e : i = aKn A
      · rw [if_pos e, e, g22, hv 4 (by decide) (by omega)]
        refine ⟨?_, h2.2⟩
        rw [← h2.1]
        exact stR_cong (fun k k1 k2 => by rw [g22, hv k k1 (by omega)])
      · rw [if_neg e, g22, ho _ (by omega)]
        obtain ⟨q1, q2⟩ := h4c i i1 (by omega)
        refine ⟨?_, q2⟩
        rw [← q1]
        exact stR_cong (fun k k1 k2 => by rw [g22, ho _ (by omega)])
    · simp only [hFF.gI (k := 19) (by decide)]; exact h5.2 i i1 i2
    · rw [hFF.gI (by decide)]; exact h6.2 i i1 i2
  · by_cases e : j = x1
    · rw [e3, e, gI_eq, hF.gI (by decide)]
    · rw [e3, gI_nj (by omega)]; exact hv j j1 (by omega)
  · rw [e3, gI_nj (by omega)]; exact ho j hj
theorem sp_M_back {σ : MS} {A : AT} {Q : Int → MS → Prop} (hC : MI σ A) (h : ∀ σ', MI σ' (nBack A) → Q (fBack A) σ') : wp_M_back σ Q := by
  obtain ⟨h1, h2, ⟨h3, h3b, h3c, h3d⟩, ⟨h4, h4b, h4c⟩, h5, h6⟩ := id hC
  unfold wp_M_back
  unfold nBack fBack at h
  rw [h4b]
  refine ⟨fun c => ⟨⟨by omega, by omega⟩, ?_⟩, fun c => by rw [if_pos c, if_pos c] at h; exact h σ hC⟩
  rw [if_neg c, if_neg c] at h
  intro s1 e1
  have hF1 : Fr [0] σ s1 := by rw [e1]; exact Fr.I (by decide) _ _
  have k31 : gI s1 0 31 = aKn A - 1 := by rw [e1, gI_eq]
  have ko1 : ∀ j, ¬ j = 31 → gI s1 0 j = gI σ 0 j := fun j hj => by rw [e1, gI_nj hj]
  refine ⟨(fun x s => 0 ≤ x ∧ x ≤ 13 ∧ Fr [13] s1 s ∧ ∀ j, 0 ≤ j → j < x → gI s 13 j = gI σ 22 (13 * (aKn A - 1) + j)), (fun x _ => (13 - x).toNat), ⟨by omega, by omega, Fr.rf, fun j j1 j2 => by omega⟩, ?_⟩
  rintro x1 s2 ⟨g0, g1, hF2, hv⟩
  have e0 := hF2.gI (k := 0) (by decide)
  rw [e0, k31]
  refine ⟨⟨by omega, by omega⟩, fun c2 s3 e3 => ?_, fun c2 => ⟨⟨by omega, by omega⟩, ⟨by omega, by omega⟩, fun s4 e4 x2 ex => ⟨⟨by omega, by omega, by rw [e4]; exact hF2.tr (Fr.I (by decide) _ _), fun j j1 j2 => ?_⟩, by dsimp only; omega⟩⟩⟩
  · have m31 : gI s3 0 31 = aKn A - 1 := by rw [e3, gI_nj (by decide), e0]; exact k31
    rw [m31]
    obtain ⟨q1, q2⟩ := h4c (aKn A - 1) (by omega) (by omega)
    have hFF : Fr [0, 13] σ s3 := by rw [e3]; exact ((hF1.mono (by decide)).tr (hF2.mono (by decide))).tr (Fr.I (by decide) _ _)
    have ko : ∀ j, ¬ j = 31 → ¬ j = 22 → gI s3 0 j = gI σ 0 j := fun j j1 j2 => by rw [e3, gI_nj j2, e0, ko1 j j1]
    have k13 : ∀ j, gI s3 13 j = gI s2 13 j := fun j => by rw [e3, gI_nk (by decide)]
    refine h s3 ⟨h1.fr (fun k hk => hFF.gI (by simp; omega)) (ko 12 (by decide) (by decide)) (ko 13 (by decide) (by decide)), ⟨?_, by rw [k13, hv 4 (by decide) (by omega)]; exact q2⟩, ⟨⟨?_, ?_⟩, by rw [e3, gI_eq]; rfl, by rw [ko 23 (by decide) (by decide)]; exact h3c, fun i i1 i2 => ?_⟩, ⟨⟨?_, ?_⟩, m31, fun i i1 i2 => ?_⟩, ⟨by rw [ko 27 (by decide) (by decide)]; exact h5.1, fun i i1 i2 => ?_⟩, by rw [ko 0 (by decide) (by decide)]; exact h6.1, fun i i1 i2 => ?_⟩
    · exact (stR_cong (g := fun k => gI σ 22 (13 * (aKn A - 1) + k)) (fun k k1 k2 => by rw [k13]; exact hv k k1 (by omega))).trans q1
    · show (0 : Int) ≤ 0; omega
    · show (0 : Int) ≤ 8; omega
    · have i3 : i < 0 := i2; omega
    · show 0 ≤ aKn A - 1; omega
    · show aKn A - 1 ≤ 2; omega
    · have i3 : i < aKn A - 1 := i2
      simp only [hFF.gI (k := 22) (by decide)]; exact h4c i i1 (by omega)
    · simp only [hFF.gI (k := 19) (by decide)]; exact h5.2 i i1 i2
    · rw [hFF.gI (by decide)]; exact h6.2 i i1 i2
  · by_cases e : j = x1
    · rw [e4, e, gI_eq, hF2.gI (by decide), hF1.gI (by decide)]
    · rw [e4, gI_nj e]; exact hv j j1 (by omega)
/-- a day of what is tried -/
theorem sp_tgo {σ : MS} {A : AT} {B : Int} {Q : MS → Prop} (hC : MI σ A) (hB : 0 ≤ B ∧ B ≤ 900000) (hst : STB B (vN (aV A)) (stR (gI σ 14)))
    (h : ∀ σ', MI σ' A → stR (gI σ' 14) = gby (aV A) (stR (gI σ 14)) → gI σ' 14 0 = tBell (gby (aV A) (stR (gI σ 14))) → Q σ') : wp_M_goesBy 14 σ Q := by
  refine sp_MgoesBy (B := B) hC.N (Or.inr rfl) (by omega) hst (fun s2 hF hN hS _ => ?_)
  refine h s2 (hC.fr hF (by decide)) hS ?_
  rw [← hS]
  rfl
theorem sp_M_behind {σ : MS} {A : AT} {B n : Int} {Q : Int → MS → Prop} (hC : MI σ A) (hW : WF B A) (hB : 0 ≤ B ∧ B ≤ 800000) (h : ∀ σ', MI σ' A → Q (fBehind A n) σ') : wp_M_behind n σ Q := by
  unfold wp_M_behind
  unfold fBehind at h
  refine sp_Min (fun c => ⟨fun _ => ?_, fun q => absurd q (by decide)⟩) (fun c => ⟨fun q => absurd rfl q, fun _ => by rw [if_neg c] at h; exact h σ hC⟩)
  rw [if_pos c] at h
  refine sp_copyNow hC (fun s1 hC1 hS1 _ => ?_)
  refine ⟨(fun x s => 0 ≤ x ∧ x ≤ n ∧ MI s A ∧ stR (gI s 14) = gbyN (aV A) x.toNat (aS A)), (fun x _ => (n - x).toNat), ⟨by omega, by omega, hC1, hS1⟩, ?_⟩
  rintro x1 s2 ⟨g0, g1, hC2, hS2⟩
  refine ⟨⟨by omega, by omega⟩, fun c2 => ?_, fun c2 => ?_⟩
  · have v : gI s2 14 0 = tBell (stR (gI s2 14)) := rfl
    rw [v, hS2, show x1.toNat = n.toNat by omega]
    exact h s2 hC2
  · have hin := gbyN_in hW.1 hW.2.1 x1.toNat
    refine sp_tgo (B := B + x1.toNat) hC2 (by omega) (by rw [hS2]; exact hin) (fun s3 hC3 hS3 _ => ?_)
    intro x2 e2
    refine ⟨⟨by omega, by omega, hC3, ?_⟩, by dsimp only; omega⟩
    rw [hS3, hS2, show x2.toNat = x1.toNat + 1 by omega]
    rfl
theorem sp_M_again {σ : MS} {A : AT} {B : Int} {Q : Int → MS → Prop} (hC : MI σ A) (hW : WF B A) (hB : 0 ≤ B ∧ B ≤ 800000) (h : ∀ σ', MI σ' A → Q (fAgain A) σ') : wp_M_again σ Q := by
  unfold wp_M_again
  refine sp_copyNow hC (fun s1 hC1 hS1 _ => ?_)
  refine ⟨(fun x s => 1 ≤ x ∧ x ≤ 57 ∧ MI s A ∧ stR (gI s 14) = gbyN (aV A) (x - 1).toNat (aS A) ∧ fAgain A = agn (aV A) (aS A) (57 - x).toNat x.toNat), (fun x _ => (57 - x).toNat), ⟨by omega, by omega, hC1, hS1, rfl⟩, ?_⟩
  rintro x1 s2 ⟨g0, g1, hC2, hS2, hA⟩
  refine ⟨⟨by omega, by omega⟩, fun c => ?_, fun c => ?_⟩
  · have q := h s2 hC2
    rw [hA, show (57 - x1).toNat = 0 by omega] at q
    exact q
  · have hin := gbyN_in hW.1 hW.2.1 (x1 - 1).toNat
    refine sp_tgo (B := B + (x1 - 1).toNat) hC2 (by omega) (by rw [hS2]; exact hin) (fun s3 hC3 hS3 hb => ?_)
    have e : gby (aV A) (stR (gI s2 14)) = gbyN (aV A) x1.toNat (aS A) := by
      rw [hS2, show x1.toNat = (x1 - 1).toNat + 1 by omega]
      rfl
    rw [e] at hS3 hb
    rw [hb, hC3.s.2.1]
    rw [show (57 - x1).toNat = (56 - x1).toNat + 1 by omega] at hA
    unfold agn at hA
    refine ⟨fun q => ?_, fun q => ?_⟩
    · rw [if_neg q] at hA
      intro x2 e2
      refine ⟨⟨by omega, by omega, hC3, by rw [hS3]; congr 1; omega, ?_⟩, by dsimp only; omega⟩
      rw [hA]
      congr 1 <;> omega
    · rw [if_pos q] at hA
      have z := h s3 hC3
      rw [hA, show ((x1.toNat : Nat) : Int) = x1 by omega] at z
      exact z
theorem allM {σ : MS} {A : AT} {B : Int} (hC : MI σ A) (hW : WF B A) : Rng (ishl 1 (vN (aV A)) - 1) := by
  have hn := hW.n
  have e := ishl1 (c := vN (aV A)) (by omega) (by omega)
  have h1 : 2 ^ (vN (aV A)).toNat ≤ 2 ^ 7 := Nat.pow_le_pow_right (by decide) (by omega)
  rw [e]
  generalize 2 ^ (vN (aV A)).toNat = m at h1 ⊢
  exact ⟨by omega, by omega⟩
/-- a cell of what is tried is written -/
theorem MI.t14 {σ : MS} {A : AT} (h : MI σ A) (j v : Int) : MI (sI σ 14 j v) A := h.fr (Fr.I (ks := [14]) (by decide) j v) (by decide)
theorem stR_set {f g : Int → Int} {s : ST} (hs : stR f = s) {j v : Int} (hg : ∀ k, g k = if k = j then v else f k) : (j = 0 → stR g = tSetBell s v) ∧ (j = 2 → stR g = tSetHeld s v) := by
  refine ⟨fun e => ?_, fun e => ?_⟩
  · subst e
    rw [← hs]
    unfold stR tSetBell
    rw [hg 0, hg 1, hg 2, hg 3, hg 4, hg 5]
    congr 1
    funext y
    show (if _ then _ else _) = (if _ then _ else _)
    by_cases hy : 0 ≤ y ∧ y < 7
    · rw [if_pos hy, if_pos hy, hg, if_neg (by omega)]
    · rw [if_neg hy, if_neg hy]
  · subst e
    rw [← hs]
    unfold stR tSetHeld
    rw [hg 0, hg 1, hg 2, hg 3, hg 4, hg 5]
    congr 1
    funext y
    show (if _ then _ else _) = (if _ then _ else _)
    by_cases hy : 0 ≤ y ∧ y < 7
    · rw [if_pos hy, if_pos hy, hg, if_neg (by omega)]
    · rw [if_neg hy, if_neg hy]
theorem sI14 {σ s : MS} {j v : Int} (e : s = sI σ 14 j v) : ∀ k, gI s 14 k = if k = j then v else gI σ 14 k := by
  intro k
  rw [e]
  by_cases q : k = j
  · rw [q, gI_eq, if_pos rfl]
  · rw [gI_nj q, if_neg q]
theorem sp_M_always {σ : MS} {A : AT} {B : Int} {Q : Int → MS → Prop} (hC : MI σ A) (hW : WF B A) (hB : 0 ≤ B ∧ B ≤ 800000) (h : ∀ σ', MI σ' A → Q (fAlways A) σ') : wp_M_always σ Q := by
  have hn := hW.n
  have hd := hW.2.1.1
  have hd2 := hW.2.1.2.1
  unfold wp_M_always
  rw [hC.n]
  intro x0 ex0
  refine ⟨(fun y x s => 0 ≤ x ∧ x ≤ vN (aV A) ∧ Rng y ∧ MI s A ∧ y = alw (aV A) (aS A) x.toNat), (fun _ x _ => (vN (aV A) - x).toNat), ⟨by omega, by omega, by rw [ex0]; exact allM hC hW, hC, ex0⟩, ?_⟩
  rintro y1 x1 s1 ⟨g0, g1, hy, hC1, hA⟩
  rw [hC1.n]
  refine ⟨⟨by omega, by omega⟩, fun c => ⟨hy, ?_⟩, fun c => ?_⟩
  · have q := h s1 hC1
    unfold fAlways at q
    rw [hA, show x1.toNat = (vN (aV A)).toNat by omega]
    exact q
  · refine sp_copyNow hC1 (fun s2 hC2 hS2 _ => ?_)
    intro s3 e3
    have hC3 : MI s3 A := by rw [e3]; exact hC2.t14 _ _
    have hS3 : stR (gI s3 14) = tSetBell (aS A) x1 := (stR_set hS2 (sI14 e3)).1 rfl
    have d1 : gI s3 14 1 = tDay (aS A) := by
      have : gI s3 14 1 = tDay (stR (gI s3 14)) := rfl
      rw [this, hS3]; rfl
    have d2 : gI s3 14 0 = x1 := by rw [e3, gI_eq]
    refine sp_latest hC3.N (Or.inr rfl) (by rw [d2]; omega) (by rw [d1]; omega) (fun s4 hF4 _ => ?_)
    have hC4 : MI s4 A := hC3.fr hF4 (by decide)
    rw [hS3]
    have step : ∀ y x, y = iand y1 (lb (who (aV A) (tSetBell (aS A) x1) 0)) → x = x1 + 1 → (0 ≤ x ∧ x ≤ vN (aV A) ∧ Rng y ∧ MI s4 A ∧ y = alw (aV A) (aS A) x.toNat) := by
      intro y x ey ex
      refine ⟨by omega, by omega, by rw [ey]; exact rI _ _, hC4, ?_⟩
      rw [ey, hA, show x.toNat = x1.toNat + 1 by omega]
      show _ = iand _ (lb (who _ (tSetBell _ ((x1.toNat : Nat) : Int)) 0))
      rw [show ((x1.toNat : Nat) : Int) = x1 by omega]
    refine ⟨fun q => ?_, fun q => ?_⟩
    · intro x3 e3 x4 e4
      refine ⟨step x3 x4 (by rw [e3]; unfold lb; rw [if_neg q]) e4, by dsimp only; omega⟩
    · intro x3 e3 x4 e4
      refine ⟨step x3 x4 (by rw [e3]; unfold lb; rw [if_pos q]) e4, by dsimp only; omega⟩
theorem sp_M_never {σ : MS} {A : AT} {B : Int} {Q : Int → MS → Prop} (hC : MI σ A) (hW : WF B A) (hB : 0 ≤ B ∧ B ≤ 800000) (h : ∀ σ', MI σ' A → Q (fNever A) σ') : wp_M_never σ Q := by
  unfold wp_M_never
  rw [hC.n, hC.s.2.1]
  intro x1 e1
  refine sp_copyNow hC (fun s1 hC1 hS1 _ => ?_)
  refine ⟨(fun y x s => 0 ≤ x ∧ x ≤ 56 ∧ Rng y ∧ MI s A ∧ stR (gI s 14) = gbyN (aV A) x.toNat (aS A) ∧ y = nev (aV A) (aS A) x.toNat), (fun _ x _ => (56 - x).toNat), ⟨by omega, by omega, by rw [e1]; exact rI _ _, hC1, hS1, e1⟩, ?_⟩
  rintro y2 x2 s2 ⟨g0, g1, hy, hC2, hS2, hA⟩
  refine ⟨⟨by omega, by omega⟩, fun c => ⟨hy, ?_⟩, fun c => ?_⟩
  · have q := h s2 hC2
    unfold fNever at q
    rw [hA, show x2.toNat = 56 by omega]
    exact q
  · have hin := gbyN_in hW.1 hW.2.1 x2.toNat
    refine sp_tgo (B := B + x2.toNat) hC2 (by omega) (by rw [hS2]; exact hin) (fun s3 hC3 hS3 hb => ?_)
    have e : gby (aV A) (stR (gI s2 14)) = gbyN (aV A) (x2.toNat + 1) (aS A) := by rw [hS2]; rfl
    rw [e] at hS3 hb
    rw [hb]
    intro x4 e4 x5 e5
    have ek : x5.toNat = x2.toNat + 1 := by omega
    refine ⟨⟨by omega, by omega, by rw [e4]; exact rI _ _, hC3, by rw [hS3, ek], ?_⟩, by dsimp only; omega⟩
    rw [e4, hA, ek]
    rfl
