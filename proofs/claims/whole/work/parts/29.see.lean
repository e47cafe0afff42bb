/-! ===== the class's calls: what is seen, the text's letters ===== -/
theorem sp_B_see {σ : MS} {A : AT} {B p d : Int} {Q : Int → MS → Prop} (hC : CI σ A) (hW : WF B A) (h : ∀ σ', CI σ' (nSee A p d) → Q (fSee A p d) σ') : wp_B_see p d σ Q := by
  obtain ⟨h1, h2⟩ := id hC.2.2.2.2.2.1
  obtain ⟨-, -, -, -, ⟨w1, w2, w3⟩, -⟩ := hW
  unfold wp_B_see
  unfold nSee fSee at h
  refine hasC hC.n (fun ha => ⟨fun q => absurd q (by decide), fun _ => ⟨fun c => ?_, fun c => ⟨fun c2 => ?_, fun c2 => ?_⟩⟩⟩) (fun ha => ⟨fun _ => ?_, fun q => absurd rfl q⟩)
  · rw [if_neg (by omega), if_neg (by omega)] at h; exact h σ hC
  · rw [h1]
    refine ⟨fun c3 => ⟨⟨w1, c3⟩, ?_⟩, fun c3 => ?_⟩
    · rw [if_pos ⟨⟨ha, by omega, c2⟩, by omega⟩, if_pos ⟨ha, by omega, c2⟩, if_neg (by omega)] at h
      intro s1 e1
      have g1 : gI s1 0 13 = aEn A := by rw [e1, gI_nk (by decide), h1]
      rw [g1]
      refine ⟨⟨w1, c3⟩, ?_⟩
      intro s2 e2
      have g2 : gI s2 0 13 = aEn A := by rw [e2, gI_nk (by decide), g1]
      rw [g2]
      refine ⟨⟨by omega, by omega⟩, ?_⟩
      intro s3 e3
      have g3 : gI s3 0 13 = aEn A + 1 := by rw [e3, gI_eq]
      rw [g3]
      have hF : Fr [0, 34, 35] σ s3 := by
        rw [e3, e2, e1]
        exact ((Fr.I (by decide) _ _).tr (Fr.I (by decide) _ _)).tr (Fr.I (by decide) _ _)
      have r0 : ∀ k i, gR s3 k i = gR σ k i := fun k i => by rw [e3, e2, e1]; rfl
      obtain ⟨c1, c2', c3', c4, c5, c6, c7⟩ := hC
      refine h s3 ⟨⟨by rw [r0, r0]; exact c1.1, by rw [r0, r0]; exact c1.2.1, c1.2.2.1.Fr hF (by decide), by rw [r0]; exact c1.2.2.2.fr (by have := c1.1; omega) hF (by decide)⟩, c2'.fr hF (by decide), c3'.fr hF (by decide), c4.fr hF (by decide), c5.fr hF (by decide), ⟨g3, fun i i1 i2 => ?_⟩, c7.fr hF (by decide)⟩
      have i3 : i < aEn A + 1 := i2
      show gI s3 34 i = (if i = aEn A then p else aEh A i) ∧ gI s3 35 i = (if i = aEn A then d else aEd A i)
      rw [e3, gI_nk (by decide), gI_nk (by decide), e2, gI_nk (by decide), e1]
      by_cases e : i = aEn A
      · rw [if_pos e, if_pos e, e, gI_eq, gI_eq]
        exact ⟨rfl, rfl⟩
      · rw [if_neg e, if_neg e, gI_nj e, gI_nj e, gI_nk (by decide)]
        exact h2 i i1 (by omega)
    · rw [if_neg (fun z => z.2 (by omega)), if_pos ⟨ha, by omega, c2⟩, if_pos (by omega)] at h
      exact h σ hC
  · rw [if_neg (by omega), if_neg (by omega)] at h; exact h σ hC
  · rw [if_neg (fun z => ha z.1.1), if_neg (fun z => ha z.1)] at h; exact h σ hC
theorem sp_B_forget {σ : MS} {A : AT} {B : Int} {Q : Int → MS → Prop} (hC : CI σ A) (hW : WF B A) (h : ∀ σ', CI σ' (nForget A) → Q (fForget A) σ') : wp_B_forget σ Q := by
  obtain ⟨h1, h2⟩ := id hC.2.2.2.2.2.1
  obtain ⟨-, -, -, -, ⟨w1, w2, w3⟩, -⟩ := hW
  unfold wp_B_forget
  intro s1 e1
  rw [h1]
  refine ⟨⟨by omega, by omega⟩, ?_⟩
  have hF : Fr [0] σ s1 := by rw [e1]; exact Fr.I (by decide) _ _
  have r0 : ∀ k i, gR s1 k i = gR σ k i := fun k i => by rw [e1]; rfl
  obtain ⟨c1, c2', c3', c4, c5, c6, c7⟩ := hC
  refine h s1 ⟨⟨by rw [r0, r0]; exact c1.1, by rw [r0, r0]; exact c1.2.1, c1.2.2.1.Fr hF (by decide), by rw [r0]; exact c1.2.2.2.fr (by have := c1.1; omega) hF (by decide)⟩, c2'.fr hF (by decide), c3'.fr hF (by decide), c4.fr hF (by decide), c5.fr hF (by decide), ⟨by rw [e1, gI_eq]; rfl, fun i i1 i2 => ?_⟩, c7.fr hF (by decide)⟩
  have i3 : i < 0 := i2
  omega
theorem sp_B_write {σ : MS} {A : AT} {B l : Int} {Q : Int → MS → Prop} (hC : CI σ A) (hW : WF B A) (h : ∀ σ', CI σ' (nWrite A l) → Q (fWrite A l) σ') : wp_B_write l σ Q := by
  obtain ⟨h1, h2⟩ := id hC.2.2.2.2.2.2
  obtain ⟨-, -, -, -, -, w1, w2, w3⟩ := hW
  unfold wp_B_write
  unfold nWrite fWrite at h
  refine ⟨fun c => ?_, fun c => ⟨fun c2 => ?_, fun c2 => ?_⟩⟩
  · rw [if_neg (by omega), if_neg (by omega)] at h; exact h σ hC
  · unfold wp_Text_add
    rw [h1, show l % 65536 = l by omega]
    refine ⟨fun c3 => ⟨⟨w1, c3⟩, ⟨by omega, by omega⟩, ?_⟩, fun c3 => ⟨fun _ => ?_, fun q => absurd rfl q⟩⟩
    · rw [if_pos ⟨⟨by omega, c2⟩, by omega⟩, if_pos ⟨by omega, c2⟩, if_neg (by omega)] at h
      intro s1 e1
      have g1 : gI s1 13 1 = aTn A := by rw [e1, gI_nk (by decide), h1]
      rw [g1]
      refine ⟨⟨by omega, by omega⟩, ?_⟩
      intro s2 e2
      refine ⟨fun q => absurd q (by decide), fun _ => ?_⟩
      have g2 : gI s2 13 1 = aTn A + 1 := by rw [e2, gI_eq]
      rw [g2]
      have hF : Fr [13, 14] σ s2 := by
        rw [e2, e1]
        exact (Fr.I (by decide) _ _).tr (Fr.I (by decide) _ _)
      obtain ⟨c1, c2', c3', c4, c5, c6, c7⟩ := hC
      refine h s2 ⟨c1.fr hF (by decide), c2'.fr hF (by decide), c3'.fr hF (by decide), c4.fr hF (by decide), c5.fr hF (by decide), c6.fr hF (by decide), g2, fun i i1 i2 => ?_⟩
      have i3 : i < aTn A + 1 := i2
      show gI s2 14 i = if i = aTn A then l else aTl A i
      rw [e2, gI_nk (by decide), e1]
      by_cases e : i = aTn A
      · rw [if_pos e, e, gI_eq]
      · rw [if_neg e, gI_nj e]
        exact h2 i i1 (by omega)
    · rw [if_neg (fun z => z.2 (by omega)), if_pos ⟨by omega, c2⟩, if_pos (by omega)] at h
      exact h σ hC
  · rw [if_neg (by omega), if_neg (by omega)] at h; exact h σ hC
theorem sp_B_wipe {σ : MS} {A : AT} {B : Int} {Q : Int → MS → Prop} (hC : CI σ A) (hW : WF B A) (h : ∀ σ', CI σ' (nWipe A) → Q (fWipe A) σ') : wp_B_wipe σ Q := by
  obtain ⟨h1, h2⟩ := id hC.2.2.2.2.2.2
  obtain ⟨-, -, -, -, -, w1, w2, w3⟩ := hW
  unfold wp_B_wipe
  intro s1 e1
  rw [h1]
  refine ⟨⟨by omega, by omega⟩, ?_⟩
  have hF : Fr [13] σ s1 := by rw [e1]; exact Fr.I (by decide) _ _
  obtain ⟨c1, c2', c3', c4, c5, c6, c7⟩ := hC
  refine h s1 ⟨c1.fr hF (by decide), c2'.fr hF (by decide), c3'.fr hF (by decide), c4.fr hF (by decide), c5.fr hF (by decide), c6.fr hF (by decide), by rw [e1, gI_eq]; rfl, fun i i1 i2 => ?_⟩
  have i3 : i < 0 := i2
  omega
theorem sees_iff (A : AT) (s : ST) : ∀ k : Nat, sees A s k = true ↔ ∀ i : Int, 0 ≤ i → i < k → tBell (gbyN (aV A) (aEd A i).toNat s) = aEh A i := by
  intro k
  induction k with
  | zero => exact ⟨fun _ i i1 i2 => by omega, fun _ => rfl⟩
  | succ k ih =>
    unfold sees
    rw [Bool.and_eq_true, ih, decide_eq_true_iff]
    constructor
    · rintro ⟨a, b⟩ i i1 i2
      by_cases e : i = k
      · rw [e]; exact b
      · exact a i i1 (by omega)
    · intro a
      exact ⟨fun i i1 i2 => a i i1 (by omega), a k (by omega) (by omega)⟩
theorem seesA_iff {A : AT} (s : ST) (h : 0 ≤ aEn A) : seesA A s = true ↔ ∀ i : Int, 0 ≤ i → i < aEn A → tBell (gbyN (aV A) (aEd A i).toNat s) = aEh A i := by
  unfold seesA
  rw [sees_iff]
  exact ⟨fun q i i1 i2 => q i i1 (by omega), fun q i i1 i2 => q i i1 (by omega)⟩
theorem sp_farthest {σ : MS} {A : AT} {B : Int} {Q : Int → Prop} (hN : CN σ A) (hW : WF B A) (h : ∀ r, 0 ≤ r → r ≤ 28 → (∀ i, 0 ≤ i → i < aEn A → aEd A i ≤ r) → Q r) : wp_B_farthestSeen σ Q := by
  obtain ⟨h1, h2⟩ := hN
  obtain ⟨-, -, -, -, ⟨w1, w2, w3⟩, -⟩ := hW
  unfold wp_B_farthestSeen
  refine ⟨(fun r x => 0 ≤ x ∧ x ≤ aEn A ∧ 0 ≤ r ∧ r ≤ 28 ∧ ∀ i, 0 ≤ i → i < x → aEd A i ≤ r), (fun _ x => (aEn A - x).toNat), ⟨by omega, by omega, by omega, by omega, fun i i1 i2 => by omega⟩, ?_⟩
  rintro r1 x1 ⟨g0, g1, g2, g3, g4⟩
  rw [h1]
  refine ⟨⟨by omega, by omega⟩, fun c => ⟨⟨by omega, by omega⟩, h r1 g2 g3 (fun i i1 i2 => g4 i i1 (by omega))⟩, fun c => ⟨⟨g0, by omega⟩, ⟨by omega, by omega⟩, ?_⟩⟩
  rw [(h2 x1 g0 (by omega)).2]
  have := w3 x1 g0 (by omega)
  intro x3 e3 x4 e4
  refine ⟨⟨by omega, by omega, by omega, by omega, fun i i1 i2 => ?_⟩, by dsimp only; omega⟩
  by_cases e : i = x1
  · rw [e]; omega
  · have := g4 i i1 (by omega); omega
theorem sp_isSeenAt {σ : MS} {A : AT} {B b t : Int} {Q : Int → Prop} (hN : CN σ A) (hW : WF B A) (h1 : (∀ i, 0 ≤ i → i < aEn A → aEd A i = t → aEh A i = b) → Q 1) (h0 : ¬ (∀ i, 0 ≤ i → i < aEn A → aEd A i = t → aEh A i = b) → Q 0) : wp_B_isSeenAt b t σ Q := by
  obtain ⟨k1, k2⟩ := hN
  obtain ⟨-, -, -, -, ⟨w1, w2, w3⟩, -⟩ := hW
  unfold wp_B_isSeenAt
  refine ⟨(fun x => 0 ≤ x ∧ x ≤ aEn A ∧ ∀ i, 0 ≤ i → i < x → aEd A i = t → aEh A i = b), (fun x => (aEn A - x).toNat), ⟨by omega, by omega, fun i i1 i2 => by omega⟩, ?_⟩
  rintro x1 ⟨g0, g1, g2⟩
  rw [k1]
  refine ⟨⟨by omega, by omega⟩, fun c => h1 (fun i i1 i2 => g2 i i1 (by omega)), fun c => ⟨⟨g0, by omega⟩, ?_⟩⟩
  obtain ⟨q1, q2⟩ := k2 x1 g0 (by omega)
  rw [q1, q2]
  refine ⟨fun c1 x2 e2 => ⟨⟨by omega, by omega, fun i i1 i2 i3 => ?_⟩, by dsimp only; omega⟩, fun c1 => ⟨fun c2 x3 e3 => ⟨⟨by omega, by omega, fun i i1 i2 i3 => ?_⟩, by dsimp only; omega⟩, fun c2 => h0 (fun z => c2 (z x1 g0 (by omega) c1))⟩⟩
  · by_cases e : i = x1
    · rw [e] at i3; exact absurd i3 c1
    · exact g2 i i1 (by omega) i3
  · by_cases e : i = x1
    · rw [e]; exact c2
    · exact g2 i i1 (by omega) i3
theorem sp_fits {σ : MS} {A : AT} {B b x : Int} {Q : Int → MS → Prop} (hC : CI σ A) (hW : WF B A) (hB : 0 ≤ B ∧ B ≤ 800000) (hb : 0 ≤ b ∧ b < vN (aV A)) (hx : 0 ≤ x ∧ x < 128)
    (h : ∀ σ', CI σ' A → Q (if seesA A (tSetHeld (tSetBell (aS A) b) x) = true then 1 else 0) σ') : wp_B_fitsSeen b x σ Q := by
  have hE := hW.2.2.2.2.1
  have hiff := seesA_iff (A := A) (tSetHeld (tSetBell (aS A) b) x) hE.1
  unfold wp_B_fitsSeen
  refine sp_dream hC (fun s1 hC1 hS1 hL1 => ?_)
  intro s2 e2 s3 e3
  have hF3 : Fr [38] s1 s3 := by rw [e3, e2]; exact (Fr.I (by decide) _ _).tr (Fr.I (by decide) _ _)
  have hC3 : CI s3 A := hC1.dr (hF3.mono (by decide)) (hC1.N.Fr hF3 (by decide)) (hF3.gR (by decide) 2)
  have hS3 : stC s3 38 = tSetHeld (tSetBell (aS A) b) x := by
    have v2 : gI s3 38 2 = b := by rw [e3, gI_nj (by decide), e2, gI_eq]
    have v3 : gI s3 38 3 = x := by rw [e3, gI_eq]
    have v : ∀ j, ¬ j = 2 → ¬ j = 3 → gI s3 38 j = gI s1 38 j := fun j j2 j3 => by rw [e3, gI_nj j3, e2, gI_nj j2]
    have v6 : gL s3 38 6 = gL s1 38 6 := by rw [e3, e2]; rfl
    have vp : ∀ j, gI s3 (38 + 1) j = gI s1 (38 + 1) j := fun j => hF3.gI (by decide) j
    rw [← hS1]
    unfold stC tSetHeld tSetBell
    rw [v2, v3, v 1 (by decide) (by decide), v 4 (by decide) (by decide), v 5 (by decide) (by decide), v6, funext vp]
    rfl
  have hL3 : shOK (gL s3 38 6) := by rw [e3, e2]; exact hL1
  have hst3 : STB B (vN (aV A)) (tSetHeld (tSetBell (aS A) b) x) := by
    obtain ⟨t1, t2, t3, t4, t5, t6, t7⟩ := hW.2.1
    exact ⟨t1, t2, hb.1, hb.2, t5, hx, t7⟩
  generalize hs0 : tSetHeld (tSetBell (aS A) b) x = s0 at *
  refine sp_farthest hC3.2.2.2.2.2.1 hW (fun r r1 r2 r3 => ?_)
  refine ⟨(fun y s => 1 ≤ y ∧ y ≤ r + 1 ∧ CI s A ∧ stC s 38 = gbyN (aV A) (y - 1).toNat s0 ∧ shOK (gL s 38 6) ∧ ∀ i, 0 ≤ i → i < aEn A → aEd A i < y → tBell (gbyN (aV A) (aEd A i).toNat s0) = aEh A i), (fun y _ => (r + 1 - y).toNat), ⟨by omega, by omega, hC3, hS3, hL3, fun i i1 i2 i3 => ?_⟩, ?_⟩
  · have := hE.2.2 i i1 i2
    omega
  rintro x1 s4 ⟨g0, g1, hC4, hS4, hL4, hA⟩
  refine ⟨⟨by omega, by omega⟩, fun c => ?_, fun c => ?_⟩
  · have q := h s4 hC4
    rw [if_pos (hiff.2 (fun i i1 i2 => hA i i1 i2 (by have := r3 i i1 i2; omega)))] at q
    exact q
  · have hin := gbyN_in hW.1 hst3 (x1 - 1).toNat
    have hst : STB (B + (x1 - 1).toNat) (vN (aV A)) (stC s4 38) := by rw [hS4]; exact hin
    refine sp_dgo (B := B + (x1 - 1).toNat) hC4 (by omega) hst hL4 (fun s5 hC5 hS5 hL5 hbl => ?_)
    have e : gby (aV A) (stC s4 38) = gbyN (aV A) x1.toNat s0 := by
      rw [hS4, show x1.toNat = (x1 - 1).toNat + 1 by omega]
      rfl
    rw [e] at hS5 hbl
    rw [hbl]
    refine sp_isSeenAt hC5.2.2.2.2.2.1 hW (fun z => ⟨fun _ x2 e2 => ?_, fun q => absurd q (by decide)⟩) (fun z => ⟨fun q => absurd rfl q, fun _ => ?_⟩)
    · refine ⟨⟨by omega, by omega, hC5, by rw [hS5]; congr 1; omega, hL5, fun i i1 i2 i3 => ?_⟩, by dsimp only; omega⟩
      by_cases e : aEd A i = x1
      · rw [e]; exact (z i i1 i2 e).symm
      · exact hA i i1 i2 (by omega)
    · have q := h s5 hC5
      rw [if_neg (fun y => z (fun i i1 i2 i3 => by rw [← i3]; exact ((hiff.1 y) i i1 i2).symm))] at q
      exact q
theorem sp_B_fog {σ : MS} {A : AT} {B : Int} {Q : Int → MS → Prop} (hC : CI σ A) (hW : WF B A) (hB : 0 ≤ B ∧ B ≤ 800000) (h : ∀ σ', CI σ' A → Q (fFog A) σ') : wp_B_fog σ Q := by
  have hn := hW.n
  unfold wp_B_fog
  refine ⟨(fun y x s => 0 ≤ x ∧ x ≤ vN (aV A) ∧ Rng y ∧ CI s A ∧ y = fogK A x.toNat), (fun _ x _ => (vN (aV A) - x).toNat), ⟨by omega, by omega, ⟨by omega, by omega⟩, hC, rfl⟩, ?_⟩
  rintro y1 x1 s1 ⟨g0, g1, hy, hC1, hA⟩
  rw [hC1.n]
  refine ⟨⟨by omega, by omega⟩, fun c => ⟨hy, ?_⟩, fun c => ?_⟩
  · have q := h s1 hC1
    unfold fFog at q
    rw [hA, show x1.toNat = (vN (aV A)).toNat by omega]
    exact q
  · rw [hC1.s.2.2.1]
    refine sp_fits hC1 hW hB ⟨g0, by omega⟩ hW.2.1.2.2.2.2.2.1 (fun s2 hC2 => ?_)
    have es : tSetHeld (tSetBell (aS A) x1) (tHeld (aS A)) = tSetBell (aS A) ((x1.toNat : Nat) : Int) := by
      rw [show ((x1.toNat : Nat) : Int) = x1 by omega]
      rfl
    rw [es]
    have ek : fogK A (x1.toNat + 1) = if seesA A (tSetBell (aS A) ((x1.toNat : Nat) : Int)) = true then ior (fogK A x1.toNat) (ishl 1 ((x1.toNat : Nat) : Int)) else fogK A x1.toNat := rfl
    by_cases q : seesA A (tSetBell (aS A) ((x1.toNat : Nat) : Int)) = true
    · rw [if_pos q] at ek ⊢
      refine ⟨fun q => absurd q (by decide), fun _ x4 e4 x5 e5 => ⟨⟨by omega, by omega, by rw [e4]; exact rO _ _, hC2, ?_⟩, by dsimp only; omega⟩⟩
      rw [e4, hA, show x5.toNat = x1.toNat + 1 by omega, ek, show ((x1.toNat : Nat) : Int) = x1 by omega]
    · rw [if_neg q] at ek ⊢
      refine ⟨fun _ x3 e3 => ⟨⟨by omega, by omega, hy, hC2, ?_⟩, by dsimp only; omega⟩, fun q => absurd rfl q⟩
      rw [hA, show x3.toNat = x1.toNat + 1 by omega, ek]
theorem sp_B_tripped {σ : MS} {A : AT} {B : Int} {Q : Int → MS → Prop} (hC : CI σ A) (hW : WF B A) (hB : 0 ≤ B ∧ B ≤ 800000) (h : ∀ σ', CI σ' A → Q (fTripped A) σ') : wp_B_tripped σ Q := by
  have hn := hW.n
  obtain ⟨t1, t2, t3, t4, t5, t6, t7⟩ := hW.2.1
  have e0 : tSetHeld (tSetBell (aS A) (tBell (aS A))) (tHeld (aS A)) = aS A := rfl
  have ek0 : triK A 0 = if seesA A (aS A) = true then 128 else 0 := rfl
  unfold wp_B_tripped
  rw [hC.s.2.1, hC.s.2.2.1]
  refine sp_fits hC hW hB ⟨t3, t4⟩ t6 (fun s1 hC1 => ?_)
  rw [e0]
  -- the rest is alike on both roads
  have rest : ∀ y1 x1 s2, (0 ≤ x1 ∧ x1 ≤ vN (aV A) ∧ Rng y1 ∧ CI s2 A ∧ y1 = triK A x1.toNat) → Rng x1 ∧
    ((gI s2 (gR s2 0 0) 5) ≤ x1 → Rng y1 ∧ Q y1 s2) ∧
    (¬ (gI s2 (gR s2 0 0) 5) ≤ x1 →
    wp_B_fitsSeen (gI s2 36 2) (ior (gI s2 36 3) (ishl 1 x1)) s2 (fun (r2 : Int) (s3 : MS) =>
     (r2 = 0 →
      ∀ x3 : Int, x3 = x1 + 1 →
       (0 ≤ x3 ∧ x3 ≤ vN (aV A) ∧ Rng y1 ∧ CI s3 A ∧ y1 = triK A x3.toNat) ∧ (vN (aV A) - x3).toNat < (vN (aV A) - x1).toNat) ∧
      (¬ r2 = 0 →
      ∀ x4 : Int, x4 = (ior y1 (ishl 1 x1)) →
       ∀ x5 : Int, x5 = x1 + 1 →
       (0 ≤ x5 ∧ x5 ≤ vN (aV A) ∧ Rng x4 ∧ CI s3 A ∧ x4 = triK A x5.toNat) ∧ (vN (aV A) - x5).toNat < (vN (aV A) - x1).toNat))) := by
    rintro y1 x1 s2 ⟨g0, g1, hy, hC2, hA⟩
    rw [hC2.n]
    refine ⟨⟨by omega, by omega⟩, fun c => ⟨hy, ?_⟩, fun c => ?_⟩
    · have q := h s2 hC2
      unfold fTripped at q
      rw [hA, show x1.toNat = (vN (aV A)).toNat by omega]
      exact q
    · rw [hC2.s.2.1, hC2.s.2.2.1]
      refine sp_fits hC2 hW hB ⟨t3, t4⟩ (ior_in (k := 7) (by decide) t6 ⟨g0, by omega⟩) (fun s3 hC3 => ?_)
      have es : tSetHeld (tSetBell (aS A) (tBell (aS A))) (ior (tHeld (aS A)) (ishl 1 x1)) = tSetHeld (aS A) (ior (tHeld (aS A)) (ishl 1 ((x1.toNat : Nat) : Int))) := by
        rw [show ((x1.toNat : Nat) : Int) = x1 by omega]
        rfl
      rw [es]
      have ek : triK A (x1.toNat + 1) = if seesA A (tSetHeld (aS A) (ior (tHeld (aS A)) (ishl 1 ((x1.toNat : Nat) : Int)))) = true then ior (triK A x1.toNat) (ishl 1 ((x1.toNat : Nat) : Int)) else triK A x1.toNat := rfl
      by_cases q : seesA A (tSetHeld (aS A) (ior (tHeld (aS A)) (ishl 1 ((x1.toNat : Nat) : Int)))) = true
      · rw [if_pos q] at ek ⊢
        refine ⟨fun q => absurd q (by decide), fun _ x4 e4 x5 e5 => ⟨⟨by omega, by omega, by rw [e4]; exact rO _ _, hC3, ?_⟩, by omega⟩⟩
        rw [e4, hA, show x5.toNat = x1.toNat + 1 by omega, ek, show ((x1.toNat : Nat) : Int) = x1 by omega]
      · rw [if_neg q] at ek ⊢
        refine ⟨fun _ x3 e3 => ⟨⟨by omega, by omega, hy, hC3, ?_⟩, by omega⟩, fun q => absurd rfl q⟩
        rw [hA, show x3.toNat = x1.toNat + 1 by omega, ek]
  refine ⟨fun q => ?_, fun q => ?_⟩
  · refine ⟨(fun y x s => 0 ≤ x ∧ x ≤ vN (aV A) ∧ Rng y ∧ CI s A ∧ y = triK A x.toNat), (fun _ x _ => (vN (aV A) - x).toNat), ⟨by omega, by omega, ⟨by omega, by omega⟩, hC1, ?_⟩, rest⟩
    show 0 = triK A 0
    rw [ek0]
    split at q
    · exact absurd q (by decide)
    · rename_i c; rw [if_neg c]
  · refine ⟨(fun y x s => 0 ≤ x ∧ x ≤ vN (aV A) ∧ Rng y ∧ CI s A ∧ y = triK A x.toNat), (fun _ x _ => (vN (aV A) - x).toNat), ⟨by omega, by omega, ⟨by omega, by omega⟩, hC1, ?_⟩, rest⟩
    show 128 = triK A 0
    rw [ek0]
    split at q
    · rename_i c; rw [if_pos c]
    · exact absurd rfl q
