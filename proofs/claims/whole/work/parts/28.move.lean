/-! ===== the class's calls: moving on ===== -/
def nks : List Nat := [17, 18, 19, 20, 36, 37]
theorem CI.nw {σ σ' : MS} {A : AT} {s : ST} (h : CI σ A) (hF : Fr nks σ σ') (hN : NI σ' (aV A)) (hR : gR σ' 17 2 = gR σ 17 2) (hS : stC σ' 36 = s) (hsh : shOK (gL σ' 36 6)) : CI σ' (wS A s) := by
  obtain ⟨h1, h2, h3, h4, h5, h6, h7⟩ := h
  exact ⟨h1.N hF (by decide) hN hR, ⟨hS, hsh⟩, h3.fr hF (by decide), h4.fr hF (by decide), h5.fr hF (by decide), h6.fr hF (by decide), h7.fr hF (by decide)⟩
theorem CI.st {σ : MS} {A : AT} {B : Int} (h : CI σ A) (hW : WF B A) : STB B (vN (aV A)) (stC σ 36) := by
  rw [h.2.1.1]
  exact hW.2.1
theorem sp_B_pass {σ : MS} {A : AT} {B n : Int} {Q : Int → MS → Prop} (hC : CI σ A) (hW : WF B A) (hB : 0 ≤ B ∧ B ≤ 900000) (h : ∀ σ', CI σ' (nPass A n) → Q (fPass A n) σ') : wp_B_pass n σ Q := by
  unfold wp_B_pass
  unfold nPass fPass at h
  refine ⟨fun c => ?_, fun c => ⟨fun c2 => ?_, fun c2 => ?_⟩⟩
  · rw [if_neg (by omega), if_neg (by omega)] at h; exact h σ hC
  · rw [if_pos (by omega), if_pos (by omega)] at h
    refine sp_push hC (fun s1 hC1 => ?_)
    have e1 : stC s1 36 = aS A := by rw [hC1.2.1.1, aS_push]
    have hN1 := hC1.N
    rw [aV_push] at hN1
    refine sp_bGoBy (B := B) hN1 (by decide) (by omega) (by omega) (by rw [e1]; exact hW.2.1) hC1.2.1.2 (fun s2 hF hN hR hS hL => ?_)
    rw [e1] at hS
    have hC2 := hC1.nw (s := gbyN (aV A) n.toNat (aS A)) (hF.mono (by decide)) (by rw [aV_push]; exact hN) hR hS (by rw [hL]; exact hC1.2.1.2)
    have q := h s2 hC2
    rw [← hS] at q
    exact q
  · rw [if_neg (by omega), if_neg (by omega)] at h; exact h σ hC
/-- the standing of now, one cell of it written -/
theorem CI.w36 {σ : MS} {A : AT} (h : CI σ A) {j v : Int} {s : ST} (hS : stC (sI σ 36 j v) 36 = s) : CI (sI σ 36 j v) (wS A s) := by
  have hF : Fr [36] σ (sI σ 36 j v) := Fr.I (by decide) j v
  exact h.nw (hF.mono (by decide)) (h.N.Fr hF (by decide)) rfl hS h.2.1.2
theorem sp_B_keepBack {σ : MS} {A : AT} {c : Int} {Q : Int → MS → Prop} (hC : CI σ A) (h : ∀ σ', CI σ' (nKeepBack A c) → Q (fKeepBack A c) σ') : wp_B_keepBack c σ Q := by
  unfold wp_B_keepBack
  unfold nKeepBack fKeepBack at h
  refine hasC hC.n (fun ha => ⟨fun _ => ?_, fun q => absurd q (by decide)⟩) (fun ha => ⟨fun q => absurd rfl q, fun _ => ?_⟩)
  · rw [if_pos ha, if_pos ha] at h
    refine sp_push hC (fun s1 hC1 => ?_)
    intro s2 e2
    have e1 : stC s1 36 = aS A := by rw [hC1.2.1.1, aS_push]
    have e3 : gI s1 36 3 = tHeld (aS A) := by rw [← e1]; rfl
    rw [e3] at e2
    have hS : stC s2 36 = tSetHeld (aS A) (ixor (tHeld (aS A)) (ishl 1 c)) := by
      rw [e2, ← e1]
      unfold stC tSetHeld
      rw [gI_eq, gI_nj (by decide), gI_nj (by decide), gI_nj (by decide), gI_nj (by decide)]
      rfl
    have v : gI s2 36 3 = ixor (tHeld (aS A)) (ishl 1 c) := by rw [e2, gI_eq]
    rw [v]
    refine h s2 ?_
    rw [e2] at hS ⊢
    exact hC1.w36 hS
  · rw [if_neg ha, if_neg ha] at h; exact h σ hC
theorem sp_B_sick {σ : MS} {A : AT} {c : Int} {Q : Int → MS → Prop} (hC : CI σ A) (h : ∀ σ', CI σ' (nSick A c) → Q (fSick A c) σ') : wp_B_sick c σ Q := by
  unfold wp_B_sick
  unfold nSick fSick at h
  refine hasC hC.n (fun ha => ⟨fun _ => ?_, fun q => absurd q (by decide)⟩) (fun ha => ⟨fun q => absurd rfl q, fun _ => ?_⟩)
  · rw [if_pos ha, if_pos ha] at h
    refine sp_push hC (fun s1 hC1 => ?_)
    intro s2 e2
    have e1 : stC s1 36 = aS A := by rw [hC1.2.1.1, aS_push]
    have e3 : gI s1 36 4 = tSick (aS A) := by rw [← e1]; rfl
    rw [e3] at e2
    have hS : stC s2 36 = tSetSick (aS A) (ixor (tSick (aS A)) (ishl 1 c)) := by
      rw [e2, ← e1]
      unfold stC tSetSick
      rw [gI_eq, gI_nj (by decide), gI_nj (by decide), gI_nj (by decide), gI_nj (by decide)]
      rfl
    have v : gI s2 36 4 = ixor (tSick (aS A)) (ishl 1 c) := by rw [e2, gI_eq]
    rw [v]
    refine h s2 ?_
    rw [e2] at hS ⊢
    exact hC1.w36 hS
  · rw [if_neg ha, if_neg ha] at h; exact h σ hC
theorem sp_B_shut {σ : MS} {A : AT} {B a b : Int} {Q : Int → MS → Prop} (hC : CI σ A) (hW : WF B A) (h : ∀ σ', CI σ' (nShut A a b) → Q (fShut A a b) σ') : wp_B_shut a b σ Q := by
  have hn := hW.n
  unfold wp_B_shut
  unfold nShut fShut at h
  refine hasTwoC hC.n (fun hp => ⟨fun _ => ?_, fun q => absurd q (by decide)⟩) (fun hp => ⟨fun q => absurd rfl q, fun _ => ?_⟩)
  · rw [if_pos hp] at h
    refine sp_pairOf ⟨hp.1.1, by omega⟩ ⟨hp.2.1.1, by omega⟩ ?_
    have hpr := pr_in hp.1.1 (by omega : a < 7) hp.2.1.1 (by omega : b < 7)
    have e := hC.w hp.1 hp.2.1 hp.2.2
    rw [e]
    refine ⟨hpr, fun q => ?_, fun q => ?_⟩
    · rw [if_pos ⟨hp, q⟩, if_neg q] at h
      refine sp_push hC (fun s1 hC1 => ?_)
      intro s2 e2
      have e1 : stC s1 36 = aS A := by rw [hC1.2.1.1, aS_push]
      have hx := shX_xor hp.1.1 (by omega) hp.2.1.1 (by omega) hp.2.2 (gL s1 36 6)
      have esh : shX (gL s1 36 6) = tShut (aS A) := by rw [← e1]; rfl
      rw [esh] at hx
      have v : gL s2 36 6 = gL s1 36 6 ^^^ lshl 1 (pr a b) := by rw [e2, gL_eq]
      have hF : Fr [36] s1 s2 := by rw [e2]; exact Fr.L (by decide) _ _
      have hS : stC s2 36 = tSetShut (aS A) (flip2 (tShut (aS A)) a b) := by
        rw [← hx, ← v, ← e1]
        unfold stC tSetShut
        rw [e2]
        rfl
      have q2 := h s2 (hC1.nw (hF.mono (by decide)) (hC1.N.Fr hF (by decide)) (hF.gR (by decide) 2) hS (by rw [v]; exact shOK_xor hC1.2.1.2 hpr.1 hpr.2 (by unfold pr; omega)))
      have hb : shb (gL s2 36 6) (pr a b) = !tShut (aS A) (min a b) (max a b) := by
        have z : shX (gL s2 36 6) (min a b) (max a b) = shb (gL s2 36 6) (pr a b) := by
          unfold shX
          rw [decide_eq_true (by omega), Bool.true_and]
          rfl
        rw [← z, v, hx]
        unfold flip2
        rw [if_pos ⟨rfl, rfl⟩]
      unfold shb at hb
      refine ⟨fun q3 => ?_, fun q3 => ?_⟩
      · rw [decide_eq_true q3] at hb
        have : tShut (aS A) (min a b) (max a b) = true := by
          cases hh : tShut (aS A) (min a b) (max a b)
          · rw [hh] at hb; exact absurd hb (by decide)
          · rfl
        rw [if_pos this] at q2
        exact q2
      · rw [decide_eq_false q3] at hb
        have : ¬ tShut (aS A) (min a b) (max a b) = true := by
          intro hh
          rw [hh] at hb
          exact absurd hb (by decide)
        rw [if_neg this] at q2
        exact q2
    · rw [if_neg (fun z => z.2 q), if_pos q] at h; exact h σ hC
  · rw [if_neg (fun z => hp z.1), if_neg hp] at h; exact h σ hC
theorem sp_dream {σ : MS} {A : AT} {Q : MS → Prop} (hC : CI σ A) (h : ∀ σ', CI σ' A → stC σ' 38 = aS A → shOK (gL σ' 38 6) → Q σ') : wp_Standing_copy 38 36 σ Q := by
  refine sp_copy isS38 isS36 (by decide) (fun s1 hF hS hL => ?_)
  refine h s1 (hC.dr (hF.mono (by decide)) (hC.N.Fr hF (by decide)) (hF.gR (by decide) 2)) (hS.trans hC.2.1.1) (by rw [hL]; exact hC.2.1.2)
theorem sp_B_behind {σ : MS} {A : AT} {B n : Int} {Q : Int → MS → Prop} (hC : CI σ A) (hW : WF B A) (hB : 0 ≤ B ∧ B ≤ 900000) (h : ∀ σ', CI σ' A → Q (fBehind A n) σ') : wp_B_behind n σ Q := by
  unfold wp_B_behind
  unfold fBehind at h
  refine ⟨fun c => ?_, fun c => ⟨fun c2 => ?_, fun c2 => ?_⟩⟩
  · rw [if_neg (by omega)] at h; exact h σ hC
  · rw [if_pos (by omega)] at h
    refine sp_dream hC (fun s1 hC1 hS1 hL1 => ?_)
    refine sp_bGoBy (B := B) hC1.N (by decide) (by omega) (by omega) (by rw [hS1]; exact hW.2.1) hL1 (fun s2 hF hN hR hS hL => ?_)
    rw [hS1] at hS
    have q := h s2 (hC1.dr (hF.mono (by decide)) hN hR)
    rw [← hS] at q
    exact q
  · rw [if_neg (by omega)] at h; exact h σ hC
/-- a day of the dream -/
theorem sp_dgo {σ : MS} {A : AT} {B : Int} {Q : MS → Prop} (hC : CI σ A) (hB : 0 ≤ B ∧ B ≤ 900000) (hst : STB B (vN (aV A)) (stC σ 38)) (hsh : shOK (gL σ 38 6))
    (h : ∀ σ', CI σ' A → stC σ' 38 = gby (aV A) (stC σ 38) → shOK (gL σ' 38 6) → gI σ' 38 2 = tBell (gby (aV A) (stC σ 38)) → Q σ') : wp_Noon_goBy 38 σ Q := by
  refine sp_nGoBy (B := B) hC.N (by decide) (by omega) hst hsh (fun s2 hF hN hR hS hL => ?_)
  refine h s2 (hC.dr (hF.mono (by decide)) hN hR) hS (by rw [hL]; exact hsh) ?_
  rw [← hS]
  rfl
theorem sp_B_again {σ : MS} {A : AT} {B : Int} {Q : Int → MS → Prop} (hC : CI σ A) (hW : WF B A) (hB : 0 ≤ B ∧ B ≤ 800000) (h : ∀ σ', CI σ' A → Q (fAgain A) σ') : wp_B_again σ Q := by
  unfold wp_B_again
  refine sp_dream hC (fun s1 hC1 hS1 hL1 => ?_)
  refine ⟨(fun x s => 1 ≤ x ∧ x ≤ 57 ∧ CI s A ∧ stC s 38 = gbyN (aV A) (x - 1).toNat (aS A) ∧ shOK (gL s 38 6) ∧ fAgain A = agn (aV A) (aS A) (57 - x).toNat x.toNat), (fun x _ => (57 - x).toNat), ⟨by omega, by omega, hC1, hS1, hL1, rfl⟩, ?_⟩
  rintro x1 s2 ⟨g0, g1, hC2, hS2, hL2, hA⟩
  refine ⟨⟨by omega, by omega⟩, fun c => ?_, fun c => ?_⟩
  · have q := h s2 hC2
    rw [hA, show (57 - x1).toNat = 0 by omega] at q
    exact q
  · have hin := gbyN_in hW.1 hW.2.1 (x1 - 1).toNat
    have hst : STB (B + (x1 - 1).toNat) (vN (aV A)) (stC s2 38) := by rw [hS2]; exact hin
    refine sp_dgo (B := B + (x1 - 1).toNat) hC2 (by omega) hst hL2 (fun s3 hC3 hS3 hL3 hb => ?_)
    have e : gby (aV A) (stC s2 38) = gbyN (aV A) x1.toNat (aS A) := by
      rw [hS2, show x1.toNat = (x1 - 1).toNat + 1 by omega]
      rfl
    rw [e] at hS3 hb
    rw [hb, hC3.s.2.1]
    rw [show (57 - x1).toNat = (56 - x1).toNat + 1 by omega] at hA
    unfold agn at hA
    refine ⟨fun q => ?_, fun q => ?_⟩
    · rw [if_neg q] at hA
      intro x2 e2
      refine ⟨⟨by omega, by omega, hC3, by rw [hS3]; congr 1; omega, hL3, ?_⟩, by dsimp only; omega⟩
      rw [hA]
      congr 1 <;> omega
    · rw [if_pos q] at hA
      have z := h s3 hC3
      rw [hA, show ((x1.toNat : Nat) : Int) = x1 by omega] at z
      exact z
theorem lb_in {w : Int} : Rng (lb w) := by
  unfold lb
  split
  · exact ⟨by omega, by omega⟩
  · exact Rng_of _
theorem rI (a b : Int) : Rng (iand a b) := Rng_of _
theorem rO (a b : Int) : Rng (ior a b) := Rng_of _
theorem rX (a b : Int) : Rng (ixor a b) := Rng_of _
theorem sp_allBits {σ : MS} {A : AT} {B : Int} {Q : Int → Prop} (hC : CI σ A) (hW : WF B A) (h : Rng (ishl 1 (vN (aV A)) - 1) → Q (ishl 1 (vN (aV A)) - 1)) : wp_B_allBits σ Q := by
  have hn := hW.n
  unfold wp_B_allBits
  rw [hC.n]
  have e := ishl1 (c := vN (aV A)) (by omega) (by omega)
  have h1 : 2 ^ (vN (aV A)).toNat ≤ 2 ^ 7 := Nat.pow_le_pow_right (by decide) (by omega)
  have hr : Rng (ishl 1 (vN (aV A)) - 1) := by
    rw [e]
    generalize 2 ^ (vN (aV A)).toNat = m at h1 ⊢
    exact ⟨by omega, by omega⟩
  exact ⟨hr, h hr⟩
theorem sp_B_always {σ : MS} {A : AT} {B : Int} {Q : Int → MS → Prop} (hC : CI σ A) (hW : WF B A) (hB : 0 ≤ B ∧ B ≤ 800000) (h : ∀ σ', CI σ' A → Q (fAlways A) σ') : wp_B_always σ Q := by
  have hn := hW.n
  unfold wp_B_always
  refine sp_allBits hC hW (fun hr => ?_)
  refine sp_dream hC (fun s1 hC1 hS1 hL1 => ?_)
  refine ⟨(fun y x s => 0 ≤ x ∧ x ≤ vN (aV A) ∧ Rng y ∧ CI s A ∧ (∃ b, stC s 38 = tSetBell (aS A) b) ∧ shOK (gL s 38 6) ∧ y = alw (aV A) (aS A) x.toNat), (fun _ x _ => (vN (aV A) - x).toNat), ⟨by omega, by omega, hr, hC1, ⟨tBell (aS A), by rw [hS1]; rfl⟩, hL1, rfl⟩, ?_⟩
  rintro y1 x1 s2 ⟨g0, g1, hy, hC2, ⟨b, hS2⟩, hL2, hA⟩
  rw [hC2.n]
  refine ⟨⟨by omega, by omega⟩, fun c => ⟨hy, ?_⟩, fun c => ?_⟩
  · have q := h s2 hC2
    unfold fAlways at q
    rw [hA, show x1.toNat = (vN (aV A)).toNat by omega]
    exact q
  · intro s3 e3
    have hF3 : Fr [38] s2 s3 := by rw [e3]; exact Fr.I (by decide) _ _
    have hC3 : CI s3 A := hC2.dr (hF3.mono (by decide)) (hC2.N.Fr hF3 (by decide)) (hF3.gR (by decide) 2)
    have hS3 : stC s3 38 = tSetBell (aS A) x1 := by
      have e : stC s3 38 = tSetBell (stC s2 38) x1 := by
        rw [e3]
        unfold stC tSetBell
        rw [gI_eq, gI_nj (by decide), gI_nj (by decide), gI_nj (by decide), gI_nj (by decide)]
        rfl
      rw [e, hS2]
      rfl
    have d1 : gI s3 38 1 = tDay (aS A) := by
      have : gI s3 38 1 = tDay (stC s3 38) := rfl
      rw [this, hS3]; rfl
    have d2 : gI s3 38 2 = x1 := by rw [e3, gI_eq]
    have hd := hW.2.1.1
    have hd2 := hW.2.1.2.1
    have hL3 : shOK (gL s3 38 6) := by rw [e3]; exact hL2
    refine sp_gather hC3.N (by decide) (by rw [d1]; omega) (by rw [d2]; omega) hL3 (fun s4 hF hR hN _ hl _ => ?_)
    have hC4 : CI s4 A := hC3.dr (hF.mono (by decide)) hN hR
    have hS4 : stC s4 38 = tSetBell (aS A) x1 := by rw [stC_Fr hF (by decide)]; exact hS3
    have hL4 : shOK (gL s4 38 6) := by rw [hF.gL (by decide)]; exact hL3
    rw [hS3] at hl
    rw [hl]
    have step : ∀ y x, y = iand y1 (lb (who (aV A) (tSetBell (aS A) x1) 0)) → x = x1 + 1 → (0 ≤ x ∧ x ≤ vN (aV A) ∧ Rng y ∧ CI s4 A ∧ (∃ b, stC s4 38 = tSetBell (aS A) b) ∧ shOK (gL s4 38 6) ∧ y = alw (aV A) (aS A) x.toNat) := by
      intro y x ey ex
      refine ⟨by omega, by omega, by rw [ey]; exact rI _ _, hC4, ⟨_, hS4⟩, hL4, ?_⟩
      rw [ey, hA, show x.toNat = x1.toNat + 1 by omega]
      show _ = iand _ (lb (who _ (tSetBell _ ((x1.toNat : Nat) : Int)) 0))
      rw [show ((x1.toNat : Nat) : Int) = x1 by omega]
    refine ⟨fun q => ?_, fun q => ?_⟩
    · intro x3 e3 x4 e4
      refine ⟨step x3 x4 (by rw [e3]; unfold lb; rw [if_neg q]) e4, by dsimp only; omega⟩
    · intro x3 e3 x4 e4
      refine ⟨step x3 x4 (by rw [e3]; unfold lb; rw [if_pos q]) e4, by dsimp only; omega⟩
theorem sp_B_never {σ : MS} {A : AT} {B : Int} {Q : Int → MS → Prop} (hC : CI σ A) (hW : WF B A) (hB : 0 ≤ B ∧ B ≤ 800000) (h : ∀ σ', CI σ' A → Q (fNever A) σ') : wp_B_never σ Q := by
  unfold wp_B_never
  refine sp_allBits hC hW (fun hr => ?_)
  rw [hC.s.2.1]
  intro x1 e1
  refine sp_dream hC (fun s1 hC1 hS1 hL1 => ?_)
  refine ⟨(fun y x s => 1 ≤ x ∧ x ≤ 57 ∧ Rng y ∧ CI s A ∧ stC s 38 = gbyN (aV A) (x - 1).toNat (aS A) ∧ shOK (gL s 38 6) ∧ y = nev (aV A) (aS A) (x - 1).toNat), (fun _ x _ => (57 - x).toNat), ⟨by omega, by omega, by rw [e1]; exact rI _ _, hC1, hS1, hL1, e1⟩, ?_⟩
  rintro y2 x2 s2 ⟨g0, g1, hy, hC2, hS2, hL2, hA⟩
  refine ⟨⟨by omega, by omega⟩, fun c => ⟨hy, ?_⟩, fun c => ?_⟩
  · have q := h s2 hC2
    unfold fNever at q
    rw [hA, show (x2 - 1).toNat = 56 by omega]
    exact q
  · have hin := gbyN_in hW.1 hW.2.1 (x2 - 1).toNat
    have hst : STB (B + (x2 - 1).toNat) (vN (aV A)) (stC s2 38) := by rw [hS2]; exact hin
    refine sp_dgo (B := B + (x2 - 1).toNat) hC2 (by omega) hst hL2 (fun s3 hC3 hS3 hL3 hb => ?_)
    have e : gby (aV A) (stC s2 38) = gbyN (aV A) ((x2 - 1).toNat + 1) (aS A) := by rw [hS2]; rfl
    rw [e] at hS3 hb
    rw [hb]
    intro x4 e4 x5 e5
    have ek : (x5 - 1).toNat = (x2 - 1).toNat + 1 := by omega
    refine ⟨⟨by omega, by omega, by rw [e4]; exact rI _ _, hC3, by rw [hS3, ek], hL3, ?_⟩, by dsimp only; omega⟩
    rw [e4, hA, ek]
    rfl
