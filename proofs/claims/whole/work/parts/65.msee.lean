/-! ===== the model's calls: what is seen, years, counts ===== -/
/-- only the object's own fields but the undo's are written, or rows that hold seen, letters -/
theorem MI.oth {σ σ' : MS} {A : AT} {ks : List Nat} (h : MI σ A) (hF : Fr ks σ σ') (hk : ∀ k ∈ ks, k = 0 ∨ k = 1 ∨ k = 19) (h0 : ∀ j, (j = 12 ∨ j = 13 ∨ j = 22 ∨ j = 23 ∨ j = 31) → gI σ' 0 j = gI σ 0 j) : MV σ' A ∧ MS' σ' A ∧ MU σ' A ∧ MK σ' A := by
  have n : ∀ k, ¬ k = 0 → ¬ k = 1 → ¬ k = 19 → k ∉ ks := fun k a b c q => by have := hk k q; omega
  obtain ⟨h1, ⟨h2, h2b⟩, ⟨h3, h3b, h3c, h3d⟩, ⟨h4, h4b, h4c⟩, -, -⟩ := h
  refine ⟨h1.fr (fun k hk => hF.gI (n k (by omega) (by omega) (by omega))) (h0 12 (by simp)) (h0 13 (by simp)), ⟨by rw [funext (hF.gI (n 13 (by decide) (by decide) (by decide)))]; exact h2, by rw [hF.gI (n 13 (by decide) (by decide) (by decide))]; exact h2b⟩, ⟨h3, by rw [h0 22 (by simp)]; exact h3b, by rw [h0 23 (by simp)]; exact h3c, fun i i1 i2 => ?_⟩, ⟨h4, by rw [h0 31 (by simp)]; exact h4b, fun i i1 i2 => ?_⟩⟩
  · rw [h0 23 (by simp)]; simp only [hF.gI (n 16 (by decide) (by decide) (by decide))]; exact h3d i i1 i2
  · simp only [hF.gI (n 22 (by decide) (by decide) (by decide))]; exact h4c i i1 i2
theorem sp_M_see {σ : MS} {A : AT} {B p d : Int} {Q : Int → MS → Prop} (hC : MI σ A) (hW : WF B A) (h : ∀ σ', MI σ' (nSee A p d) → Q (fSee A p d) σ') : wp_M_see p d σ Q := by
  obtain ⟨h1, h2⟩ := id hC.2.2.2.2.1
  have hT := hC.2.2.2.2.2
  obtain ⟨-, -, -, -, ⟨w1, w2, w3⟩, -⟩ := id hW
  unfold wp_M_see
  unfold nSee fSee at h
  refine isHomeM hC hW (fun ha => ⟨fun q => absurd q (by decide), fun _ => sp_Min (fun c => ⟨fun _ => ?_, fun q => absurd q (by decide)⟩) (fun c => ⟨fun q => absurd rfl q, fun _ => ?_⟩)⟩) (fun ha => ⟨fun _ => ?_, fun q => absurd rfl q⟩)
  · rw [h1]
    refine ⟨fun c3 => ⟨⟨by omega, by omega⟩, ?_⟩, fun c3 => ?_⟩
    · rw [if_pos ⟨⟨ha, c⟩, c3⟩, if_pos ⟨ha, c⟩, if_neg c3] at h
      intro s1 e1
      have g1 : gI s1 0 27 = aEn A := by rw [e1, gI_nk (by decide), h1]
      rw [g1]
      refine ⟨⟨by omega, by omega⟩, ?_⟩
      intro s2 e2
      have g2 : gI s2 0 27 = aEn A := by rw [e2, gI_nk (by decide), g1]
      rw [g2]
      refine ⟨⟨by omega, by omega⟩, ?_⟩
      intro s3 e3
      have g3 : gI s3 0 27 = aEn A + 1 := by rw [e3, gI_eq]
      rw [g3]
      have hF : Fr [0, 19] σ s3 := by
        rw [e3, e2, e1]
        exact ((Fr.I (by decide) _ _).tr (Fr.I (by decide) _ _)).tr (Fr.I (by decide) _ _)
      obtain ⟨b1, b2, b3, b4⟩ := hC.oth hF (by decide) (fun j hj => by rw [e3, gI_nj (by omega), e2, gI_nk (by decide), e1, gI_nk (by decide)])
      refine h s3 ⟨b1, b2, b3, b4, ⟨g3, fun i i1 i2 => ?_⟩, by rw [e3, gI_nj (by decide), e2, gI_nk (by decide), e1, gI_nk (by decide)]; exact hT.1, fun i i1 i2 => by rw [hF.gI (by decide)]; exact hT.2 i i1 i2⟩
      have i3 : i < aEn A + 1 := i2
      show gI s3 19 (2 * i) = (if i = aEn A then p else aEh A i) ∧ gI s3 19 (2 * i + 1) = (if i = aEn A then d else aEd A i)
      rw [e3, gI_nk (by decide), gI_nk (by decide), e2, gI_nj (by omega), e1]
      by_cases e : i = aEn A
      · rw [if_pos e, if_pos e, e, gI_eq, gI_eq]
        exact ⟨rfl, rfl⟩
      · rw [if_neg e, if_neg e, gI_nj (by omega), gI_nj (by omega), gI_nj (by omega)]
        exact h2 i i1 (by omega)
    · rw [if_neg (fun z => z.2 c3), if_pos ⟨ha, c⟩, if_pos c3] at h
      exact h σ hC
  · rw [if_neg (fun z => c z.1.2), if_neg (fun z => c z.2)] at h; exact h σ hC
  · rw [if_neg (fun z => ha z.1.1), if_neg (fun z => ha z.1)] at h; exact h σ hC
theorem sp_M_forget {σ : MS} {A : AT} {B : Int} {Q : Int → MS → Prop} (hC : MI σ A) (hW : WF B A) (h : ∀ σ', MI σ' (nForget A) → Q (fForget A) σ') : wp_M_forget σ Q := by
  obtain ⟨h1, h2⟩ := id hC.2.2.2.2.1
  have hT := hC.2.2.2.2.2
  obtain ⟨-, -, -, -, ⟨w1, w2, w3⟩, -⟩ := id hW
  unfold wp_M_forget
  intro s1 e1
  rw [h1]
  refine ⟨⟨by omega, by omega⟩, ?_⟩
  have hF : Fr [0] σ s1 := by rw [e1]; exact Fr.I (by decide) _ _
  obtain ⟨b1, b2, b3, b4⟩ := hC.oth hF (by decide) (fun j hj => by rw [e1, gI_nj (by omega)])
  refine h s1 ⟨b1, b2, b3, b4, ⟨by rw [e1, gI_eq]; rfl, fun i i1 i2 => ?_⟩, by rw [e1, gI_nj (by decide)]; exact hT.1, fun i i1 i2 => by rw [hF.gI (by decide)]; exact hT.2 i i1 i2⟩
  have i3 : i < 0 := i2
  omega
theorem sp_M_write {σ : MS} {A : AT} {B l : Int} {Q : Int → MS → Prop} (hC : MI σ A) (hW : WF B A) (h : ∀ σ', MI σ' (nWrite A l) → Q (fWrite A l) σ') : wp_M_write l σ Q := by
  obtain ⟨h1, h2⟩ := id hC.2.2.2.2.2
  have hE := hC.2.2.2.2.1
  obtain ⟨-, -, -, -, -, w1, w2, w3⟩ := id hW
  unfold wp_M_write
  unfold nWrite fWrite at h
  refine sp_Min (fun c => ⟨fun _ => ?_, fun q => absurd q (by decide)⟩) (fun c => ⟨fun q => absurd rfl q, fun _ => ?_⟩)
  · rw [h1]
    refine ⟨fun c3 => ⟨⟨by omega, by omega⟩, ?_⟩, fun c3 => ?_⟩
    · rw [if_pos ⟨c, c3⟩, if_pos c, if_neg c3] at h
      intro s1 e1
      have g1 : gI s1 0 0 = aTn A := by rw [e1, gI_nk (by decide), h1]
      rw [g1]
      refine ⟨⟨by omega, by omega⟩, ?_⟩
      intro s2 e2
      have g2 : gI s2 0 0 = aTn A + 1 := by rw [e2, gI_eq]
      rw [g2]
      have hF : Fr [0, 1] σ s2 := by
        rw [e2, e1]
        exact (Fr.I (by decide) _ _).tr (Fr.I (by decide) _ _)
      have ko : ∀ j, ¬ j = 0 → gI s2 0 j = gI σ 0 j := fun j hj => by rw [e2, gI_nj hj, e1, gI_nk (by decide)]
      obtain ⟨b1, b2, b3, b4⟩ := hC.oth hF (by decide) (fun j hj => ko j (by omega))
      refine h s2 ⟨b1, b2, b3, b4, ⟨by rw [ko 27 (by decide)]; exact hE.1, fun i i1 i2 => by simp only [hF.gI (k := 19) (by decide)]; exact hE.2 i i1 i2⟩, g2, fun i i1 i2 => ?_⟩
      have i3 : i < aTn A + 1 := i2
      show gI s2 1 i = if i = aTn A then l else aTl A i
      rw [e2, gI_nk (by decide), e1]
      by_cases e : i = aTn A
      · rw [if_pos e, e, gI_eq]
      · rw [if_neg e, gI_nj e]
        exact h2 i i1 (by omega)
    · rw [if_neg (fun z => z.2 c3), if_pos c, if_pos c3] at h
      exact h σ hC
  · rw [if_neg (fun z => c z.1), if_neg c] at h; exact h σ hC
theorem sp_M_wipe {σ : MS} {A : AT} {B : Int} {Q : Int → MS → Prop} (hC : MI σ A) (hW : WF B A) (h : ∀ σ', MI σ' (nWipe A) → Q (fWipe A) σ') : wp_M_wipe σ Q := by
  obtain ⟨h1, h2⟩ := id hC.2.2.2.2.2
  have hE := hC.2.2.2.2.1
  obtain ⟨-, -, -, -, -, w1, w2, w3⟩ := id hW
  unfold wp_M_wipe
  intro s1 e1
  rw [h1]
  refine ⟨⟨by omega, by omega⟩, ?_⟩
  have hF : Fr [0] σ s1 := by rw [e1]; exact Fr.I (by decide) _ _
  obtain ⟨b1, b2, b3, b4⟩ := hC.oth hF (by decide) (fun j hj => by rw [e1, gI_nj (by omega)])
  refine h s1 ⟨b1, b2, b3, b4, ⟨by rw [e1, gI_nj (by decide)]; exact hE.1, fun i i1 i2 => by simp only [hF.gI (k := 19) (by decide)]; exact hE.2 i i1 i2⟩, by rw [e1, gI_eq]; rfl, fun i i1 i2 => ?_⟩
  have i3 : i < 0 := i2
  omega
theorem sp_isSo {σ : MS} {A : AT} {B : Int} {s : ST} {Q : Int → MS → Prop} (hC : MI σ A) (hW : WF B A) (hB : 0 ≤ B ∧ B ≤ 800000) (hS : stR (gI σ 14) = s) (hst : STB B (vN (aV A)) s)
    (h : ∀ σ', MI σ' A → Q (if seesA A s = true then 1 else 0) σ') : wp_M_isSo σ Q := by
  have hE := hW.2.2.2.2.1
  have hiff := seesA_iff (A := A) s hE.1
  unfold wp_M_isSo
  -- all seen of days before d, and the first k of day d
  let P : Int → Int → Prop := fun d k => ∀ i, 0 ≤ i → i < aEn A → (aEd A i < d ∨ (aEd A i = d ∧ i < k)) → tBell (gbyN (aV A) (aEd A i).toNat s) = aEh A i
  refine ⟨(fun r d z => 1 ≤ d ∧ d ≤ 29 ∧ (r = 0 ∨ r = 1) ∧ (r = 1 ↔ P d 0) ∧ MI z A ∧ stR (gI z 14) = gbyN (aV A) (d - 1).toNat s), (fun _ d _ => (29 - d).toNat), ⟨by omega, by omega, Or.inr rfl, ⟨fun _ i i1 i2 q => by have := hE.2.2 i i1 i2; omega, fun _ => rfl⟩, hC, hS⟩, ?_⟩
  rintro r1 d1 s1 ⟨g0, g1, g2, g3, hC1, hS1⟩
  refine ⟨⟨by omega, by omega⟩, fun c => ⟨g2, ?_⟩, fun c => ?_⟩
  · have q := h s1 hC1
    have e : (if seesA A s = true then (1 : Int) else 0) = r1 := by
      have e29 : P d1 0 ↔ seesA A s = true := by
        rw [hiff]
        constructor
        · intro p i i1 i2; exact p i i1 i2 (Or.inl (by have := hE.2.2 i i1 i2; omega))
        · intro p i i1 i2 _; exact p i i1 i2
      by_cases z : seesA A s = true
      · rw [if_pos z, g3.2 (e29.2 z)]
      · rw [if_neg z]
        rcases g2 with w | w
        · exact w.symm
        · exact absurd (e29.1 (g3.1 w)) z
    rw [← e]
    exact q
  · have hin := gbyN_in hW.1 hst (d1 - 1).toNat
    refine sp_tgo (B := B + (d1 - 1).toNat) hC1 (by omega) (by rw [hS1]; exact hin) (fun s2 hC2 hS2 hb => ?_)
    have e : gby (aV A) (stR (gI s1 14)) = gbyN (aV A) d1.toNat s := by
      rw [hS1, show d1.toNat = (d1 - 1).toNat + 1 by omega]
      rfl
    rw [e] at hS2 hb
    rw [hb, hC2.2.2.2.2.1.1]
    refine ⟨(fun r k => 0 ≤ k ∧ k ≤ aEn A ∧ (r = 0 ∨ r = 1) ∧ (r = 1 ↔ P d1 k)), (fun _ k => (aEn A - k).toNat), ⟨by omega, by omega, g2, g3⟩, ?_⟩
    rintro r3 k3 ⟨j0, j1, j2, j3⟩
    have step0 : ∀ k', k' = k3 + 1 → r3 = 0 → (¬ aEn A ≤ k3) → ((0 ≤ k' ∧ k' ≤ aEn A ∧ ((0 : Int) = 0 ∨ (0 : Int) = 1) ∧ ((0 : Int) = 1 ↔ P d1 k'))) := by
      intro k' ek e0 hlt
      refine ⟨by omega, by omega, Or.inl rfl, fun q => absurd q (by decide), fun p => ?_⟩
      exfalso
      have : P d1 k3 := fun i i1 i2 q => p i i1 i2 (by omega)
      have := j3.2 this
      omega
    refine ⟨⟨by omega, by omega⟩, fun c3 x5 e5 => ⟨⟨by omega, by omega, j2, ?_, hC2, by rw [hS2]; congr 1; omega⟩, by dsimp only; omega⟩, fun c3 => ⟨⟨by omega, by omega⟩, fun c4 x6 e6 => ⟨step0 x6 e6 c4 c3, by dsimp only; omega⟩, fun c4 => ⟨⟨by omega, by omega⟩, ?_⟩⟩⟩
    · rw [j3]
      constructor
      · intro p i i1 i2 q; exact p i i1 i2 (by omega)
      · intro p i i1 i2 q; exact p i i1 i2 (by omega)
    · have r1 : r3 = 1 := by omega
      have hp := j3.1 r1
      obtain ⟨v1, v2⟩ := hC2.2.2.2.2.1.2 k3 j0 (by omega)
      rw [v1, v2]
      refine ⟨fun c5 x7 e7 => ⟨⟨by omega, by omega, Or.inr rfl, fun _ i i1 i2 q => ?_, fun _ => rfl⟩, by dsimp only; omega⟩, fun c5 => ⟨⟨by omega, by omega⟩, fun c6 x8 e8 => ⟨⟨by omega, by omega, Or.inl rfl, fun q => absurd q (by decide), fun p => ?_⟩, by dsimp only; omega⟩, fun c6 x9 e9 => ⟨⟨by omega, by omega, Or.inr rfl, fun _ i i1 i2 q => ?_, fun _ => rfl⟩, by dsimp only; omega⟩⟩⟩
      · by_cases z : i = k3
        · exact hp i i1 i2 (by rw [z] at q ⊢; omega)
        · exact hp i i1 i2 (by omega)
      · exfalso
        have := p k3 j0 (by omega) (Or.inr ⟨c5, by omega⟩)
        rw [c5] at this
        exact c6 this.symm
      · by_cases z : i = k3
        · rw [z, c5]; exact c6.symm
        · exact hp i i1 i2 (by omega)
theorem fogK_in {A : AT} (hn : vN (aV A) ≤ 7) : ∀ k : Nat, k ≤ 7 → 0 ≤ fogK A k ∧ fogK A k < 128 := by
  intro k
  induction k with
  | zero => intro _; exact ⟨Int.le_refl _, by show (0 : Int) < 128; omega⟩
  | succ k ih =>
    intro hk
    have := ih (by omega)
    unfold fogK
    split
    · exact ior_in (k := 7) (by decide) this ⟨by omega, by omega⟩
    · exact this
theorem sp_M_fog {σ : MS} {A : AT} {B : Int} {Q : Int → MS → Prop} (hC : MI σ A) (hW : WF B A) (hB : 0 ≤ B ∧ B ≤ 800000) (h : ∀ σ', MI σ' A → Q (fFog A) σ') : wp_M_fog σ Q := by
  have hn := hW.n
  unfold wp_M_fog
  refine ⟨(fun y x s => 0 ≤ x ∧ x ≤ vN (aV A) ∧ MI s A ∧ y = fogK A x.toNat), (fun _ x _ => (vN (aV A) - x).toNat), ⟨by omega, by omega, hC, rfl⟩, ?_⟩
  rintro y1 x1 s1 ⟨g0, g1, hC1, hA⟩
  have hin := fogK_in (A := A) hn.2 x1.toNat (by omega)
  rw [hC1.n]
  refine ⟨⟨by omega, by omega⟩, fun c => ⟨⟨by omega, by omega⟩, ?_⟩, fun c => ?_⟩
  · have q := h s1 hC1
    unfold fFog at q
    rw [hA, show x1.toNat = (vN (aV A)).toNat by omega]
    exact q
  · refine sp_copyNow hC1 (fun s2 hC2 hS2 _ => ?_)
    intro s3 e3
    have hC3 : MI s3 A := by rw [e3]; exact hC2.t14 _ _
    have hS3 : stR (gI s3 14) = tSetBell (aS A) x1 := (stR_set hS2 (sI14 e3)).1 rfl
    have hst3 : STB B (vN (aV A)) (tSetBell (aS A) x1) := by
      obtain ⟨t1, t2, t3, t4, t5, t6, t7⟩ := hW.2.1
      exact ⟨t1, t2, g0, by show x1 < _; omega, t5, t6, t7⟩
    refine sp_isSo hC3 hW hB hS3 hst3 (fun s4 hC4 => ?_)
    have ek : fogK A (x1.toNat + 1) = if seesA A (tSetBell (aS A) ((x1.toNat : Nat) : Int)) = true then ior (fogK A x1.toNat) (ishl 1 ((x1.toNat : Nat) : Int)) else fogK A x1.toNat := rfl
    rw [show ((x1.toNat : Nat) : Int) = x1 by omega] at ek
    by_cases q : seesA A (tSetBell (aS A) x1) = true
    · rw [if_pos q] at ek ⊢
      refine ⟨fun q => absurd q (by decide), fun _ x4 e4 x5 e5 => ⟨⟨by omega, by omega, hC4, ?_⟩, by dsimp only; omega⟩⟩
      rw [e4, hA, show x5.toNat = x1.toNat + 1 by omega, ek]
    · rw [if_neg q] at ek ⊢
      refine ⟨fun _ x3 e3 x4 e4 => ⟨⟨by omega, by omega, hC4, ?_⟩, by dsimp only; omega⟩, fun q => absurd rfl q⟩
      rw [e3, hA, show x4.toNat = x1.toNat + 1 by omega, ek, ior_0 hin]
theorem triK_in {A : AT} (hn : vN (aV A) ≤ 7) : ∀ k : Nat, k ≤ 7 → 0 ≤ triK A k ∧ triK A k < 256 := by
  intro k
  induction k with
  | zero =>
    intro _
    show 0 ≤ (if seesA A (aS A) = true then (128 : Int) else 0) ∧ (if seesA A (aS A) = true then (128 : Int) else 0) < 256
    split <;> omega
  | succ k ih =>
    intro hk
    have := ih (by omega)
    unfold triK
    split
    · obtain ⟨n, hn'⟩ := Int.eq_ofNat_of_zero_le this.1
      have e := p2_7 (c := (k : Int)) (by omega) (by omega)
      rw [hn', e.1, ior_nat (by omega) (by omega)]
      have := Nat.or_lt_two_pow (n := 8) (x := n) (y := 2 ^ ((k : Int)).toNat) (by omega) (by omega)
      omega
    · exact this
theorem ior_0' {a : Int} (h : 0 ≤ a ∧ a < 256) : ior a 0 = a := by
  obtain ⟨n, rfl⟩ := Int.eq_ofNat_of_zero_le h.1
  have := ior_nat (a := n) (b := 0) (by omega) (by decide)
  rw [Nat.or_zero] at this
  exact this
theorem sp_M_tripped {σ : MS} {A : AT} {B : Int} {Q : Int → MS → Prop} (hC : MI σ A) (hW : WF B A) (hB : 0 ≤ B ∧ B ≤ 800000) (h : ∀ σ', MI σ' A → Q (fTripped A) σ') : wp_M_tripped σ Q := by
  have hn := hW.n
  have ek0 : triK A 0 = if seesA A (aS A) = true then 128 else 0 := rfl
  unfold wp_M_tripped
  refine sp_copyNow hC (fun s1 hC1 hS1 _ => ?_)
  refine sp_isSo hC1 hW hB hS1 hW.2.1 (fun s2 hC2 => ?_)
  have rest : ∀ y1 x1 s3, (0 ≤ x1 ∧ x1 ≤ vN (aV A) ∧ MI s3 A ∧ y1 = triK A x1.toNat) → Rng x1 ∧
    ((gI s3 0 12) ≤ x1 → Rng y1 ∧ Q y1 s3) ∧
    (¬ (gI s3 0 12) ≤ x1 →
     wp_M_copyNow s3 (fun s4 : MS =>
      ∀ s5 : MS, s5 = sI s4 14 2 (ior (gI s4 14 2) (ishl 1 x1)) →
       wp_M_isSo s5 (fun (r4 : Int) (s6 : MS) =>
       (r4 = 0 →
        ∀ x3 : Int, x3 = (ior y1 0) →
         ∀ x4 : Int, x4 = x1 + 1 →
         (0 ≤ x4 ∧ x4 ≤ vN (aV A) ∧ MI s6 A ∧ x3 = triK A x4.toNat) ∧ (vN (aV A) - x4).toNat < (vN (aV A) - x1).toNat) ∧
        (¬ r4 = 0 →
        ∀ x5 : Int, x5 = (ior y1 (ishl 1 x1)) →
         ∀ x6 : Int, x6 = x1 + 1 →
         (0 ≤ x6 ∧ x6 ≤ vN (aV A) ∧ MI s6 A ∧ x5 = triK A x6.toNat) ∧ (vN (aV A) - x6).toNat < (vN (aV A) - x1).toNat)))) := by
    rintro y1 x1 s3 ⟨g0, g1, hC3, hA⟩
    have hin := triK_in (A := A) hn.2 x1.toNat (by omega)
    rw [hC3.n]
    refine ⟨⟨by omega, by omega⟩, fun c => ⟨⟨by omega, by omega⟩, ?_⟩, fun c => ?_⟩
    · have q := h s3 hC3
      unfold fTripped at q
      rw [hA, show x1.toNat = (vN (aV A)).toNat by omega]
      exact q
    · refine sp_copyNow hC3 (fun s4 hC4 hS4 _ => ?_)
      have v2 : gI s4 14 2 = tHeld (aS A) := by rw [← hS4]; rfl
      rw [v2]
      intro s5 e5
      have hC5 : MI s5 A := by rw [e5]; exact hC4.t14 _ _
      have hS5 : stR (gI s5 14) = tSetHeld (aS A) (ior (tHeld (aS A)) (ishl 1 x1)) := (stR_set hS4 (sI14 e5)).2 rfl
      have hst5 : STB B (vN (aV A)) (tSetHeld (aS A) (ior (tHeld (aS A)) (ishl 1 x1))) := by
        obtain ⟨t1, t2, t3, t4, t5, t6, t7⟩ := hW.2.1
        exact ⟨t1, t2, t3, t4, t5, ior_in (k := 7) (by decide) t6 ⟨g0, by omega⟩, t7⟩
      refine sp_isSo hC5 hW hB hS5 hst5 (fun s6 hC6 => ?_)
      have ek : triK A (x1.toNat + 1) = if seesA A (tSetHeld (aS A) (ior (tHeld (aS A)) (ishl 1 ((x1.toNat : Nat) : Int)))) = true then ior (triK A x1.toNat) (ishl 1 ((x1.toNat : Nat) : Int)) else triK A x1.toNat := rfl
      rw [show ((x1.toNat : Nat) : Int) = x1 by omega] at ek
      by_cases q : seesA A (tSetHeld (aS A) (ior (tHeld (aS A)) (ishl 1 x1))) = true
      · rw [if_pos q] at ek ⊢
        refine ⟨fun q => absurd q (by decide), fun _ x4 e4 x5 e5 => ⟨⟨by omega, by omega, hC6, ?_⟩, by omega⟩⟩
        rw [e4, hA, show x5.toNat = x1.toNat + 1 by omega, ek]
      · rw [if_neg q] at ek ⊢
        refine ⟨fun _ x3 e3 x4 e4 => ⟨⟨by omega, by omega, hC6, ?_⟩, by omega⟩, fun q => absurd rfl q⟩
        rw [e3, hA, show x4.toNat = x1.toNat + 1 by omega, ek, ior_0' hin]
  refine ⟨fun q => ?_, fun q => ?_⟩
  · refine ⟨(fun y x s => 0 ≤ x ∧ x ≤ vN (aV A) ∧ MI s A ∧ y = triK A x.toNat), (fun _ x _ => (vN (aV A) - x).toNat), ⟨by omega, by omega, hC2, ?_⟩, rest⟩
    show 0 = triK A 0
    rw [ek0]
    split at q
    · exact absurd q (by decide)
    · rename_i c; rw [if_neg c]
  · refine ⟨(fun y x s => 0 ≤ x ∧ x ≤ vN (aV A) ∧ MI s A ∧ y = triK A x.toNat), (fun _ x _ => (vN (aV A) - x).toNat), ⟨by omega, by omega, hC2, ?_⟩, rest⟩
    show 128 = triK A 0
    rw [ek0]
    split at q
    · rename_i c; rw [if_pos c]
    · exact absurd rfl q
