/-! ===== the model's calls: looking, moving ===== -/
theorem sp_M_home {σ : MS} {A : AT} {B p w : Int} {Q : Int → Prop} (hC : MI σ A) (hW : WF B A) (h : Q (fHome A p w)) : wp_M_home p w σ Q := by
  have hn := hW.n
  obtain ⟨s1, s2, s3, s4, s5, s6⟩ := hC.s
  unfold wp_M_home
  unfold fHome at h
  refine isHomeM hC hW (fun hp => ⟨fun q => absurd q (by decide), fun _ => sp_Min (fun c2 => ⟨fun _ => ?_, fun q => absurd q (by decide)⟩) (fun c => ⟨fun q => absurd rfl q, fun _ => ?_⟩)⟩) (fun hp => ⟨fun _ => ?_, fun q => absurd rfl q⟩)
  · rw [if_pos ⟨hp, c2.1, c2.2⟩] at h
    have hk := hC.N.k hp
    refine ⟨fun e => ?_, fun e => ?_, fun e => ?_, fun e => ?_, fun e => ?_, fun e => ?_, fun e0 e1 e2 e3 e4 e5 => ?_⟩
    · rw [if_pos e] at h; rw [hk.1]; exact ⟨by omega, h⟩
    · rw [if_neg (by omega), if_pos e] at h; rw [hk.2]; exact ⟨by omega, h⟩
    · rw [if_neg (by omega), if_neg (by omega), if_pos e] at h
      rw [s2]
      exact ⟨fun q => by rw [if_neg q] at h; exact h, fun q => by rw [if_pos q] at h; exact h⟩
    · rw [if_neg (by omega), if_neg (by omega), if_neg (by omega), if_pos e] at h
      rw [s5]; exact h
    · rw [if_neg (by omega), if_neg (by omega), if_neg (by omega), if_neg (by omega), if_pos e] at h
      rw [hC.sp ⟨hp.1, by omega⟩]; exact ⟨by omega, h⟩
    · rw [if_neg (by omega), if_neg (by omega), if_neg (by omega), if_neg (by omega), if_neg (by omega), if_pos e] at h
      rw [s4]; exact h
    · rw [if_neg e0, if_neg e1, if_neg e2, if_neg e3, if_neg e4, if_neg e5] at h
      rw [s3]; exact h
  · rw [if_neg (fun q => c ⟨q.2.1, q.2.2⟩)] at h; exact h
  · rw [if_neg (fun q => hp q.1)] at h; exact h
theorem sp_M_way {σ : MS} {A : AT} {B a b w : Int} {Q : Int → Prop} (hC : MI σ A) (hW : WF B A) (hB : B ≤ 900000) (h : Q (fWay A a b w)) : wp_M_way a b w σ Q := by
  have hn := hW.n
  obtain ⟨s1, s2, s3, s4, s5, s6⟩ := hC.s
  have hd := hW.2.1.1
  have hd2 := hW.2.1.2.1
  unfold wp_M_way
  unfold fWay at h
  refine isHomeM hC hW (fun ha => ⟨fun q => absurd q (by decide), fun _ => isHomeM hC hW (fun hb => ⟨fun q => absurd q (by decide), fun _ => ⟨fun c => ?_, fun c => sp_Min (fun c2 => ⟨fun _ => ?_, fun q => absurd q (by decide)⟩) (fun c2 => ⟨fun q => absurd rfl q, fun _ => ?_⟩)⟩⟩) (fun hb => ⟨fun _ => ?_, fun q => absurd rfl q⟩)⟩) (fun ha => ⟨fun _ => ?_, fun q => absurd rfl q⟩)
  · rw [if_neg (fun q => q.1.2.2 c)] at h; exact h
  · rw [if_pos ⟨⟨ha, hb, c⟩, c2.1, c2.2⟩] at h
    rw [hC.N.w ha hb c]
    refine ⟨⟨by omega, by omega⟩, fun q => ?_, fun q => ?_⟩
    · rw [if_neg q] at h
      refine ⟨fun q2 => ?_, fun q2 => ?_⟩
      · rw [if_neg q2] at h
        refine sp_isOpen hC.N ha hb c (by rw [s1]; omega) (fun z => ⟨fun q => absurd q (by decide), fun _ => ?_⟩) (fun z => ⟨fun _ => ?_, fun q => absurd rfl q⟩)
        · rw [hC.2.1.1] at z; rw [if_pos z] at h; exact h
        · rw [hC.2.1.1] at z; rw [if_neg z] at h; exact h
      · rw [if_pos q2] at h; exact h
    · rw [if_pos q] at h; exact h
  · rw [if_neg (fun q => c2 ⟨q.2.1, q.2.2⟩)] at h; exact h
  · rw [if_neg (fun q => hb q.1.2.1)] at h; exact h
  · rw [if_neg (fun q => ha q.1.1)] at h; exact h
theorem sp_M_far {σ : MS} {A : AT} {B a b : Int} {Q : Int → MS → Prop} (hC : MI σ A) (hW : WF B A) (hB : B ≤ 900000) (h : ∀ σ', MI σ' A → Q (fFar A a b) σ') : wp_M_far a b σ Q := by
  have hn := hW.n
  obtain ⟨s1, s2, s3, s4, s5, s6⟩ := hC.s
  have hd := hW.2.1.1
  have hd2 := hW.2.1.2.1
  unfold wp_M_far
  unfold fFar at h
  refine isHomeM hC hW (fun ha => ⟨fun q => absurd q (by decide), fun _ => isHomeM hC hW (fun hb => ⟨fun _ => ?_, fun q => absurd q (by decide)⟩) (fun hb => ⟨fun q => absurd rfl q, fun _ => ?_⟩)⟩) (fun ha => ⟨fun _ => ?_, fun q => absurd rfl q⟩)
  · refine sp_layMinutes hC.N (Or.inl rfl) ha (by rw [s1]; omega) (fun σ' hF hv => ⟨⟨hb.1, by omega⟩, ?_⟩)
    have q := h σ' (hC.fr hF (by decide))
    rw [if_pos ⟨ha, hb⟩] at q
    rw [hv b hb.1 hb.2, hC.2.1.1]
    exact ⟨fun c => by rw [if_neg (by omega)] at q; exact q, fun c => by rw [if_pos (by omega)] at q; exact q⟩
  · have q := h σ hC
    rw [if_neg (fun z => hb z.2)] at q
    exact q
  · have q := h σ hC
    rw [if_neg (fun z => ha z.1)] at q
    exact q
theorem sp_M_comes {σ : MS} {A : AT} {B c : Int} {Q : Int → MS → Prop} (hC : MI σ A) (hW : WF B A) (hB : B ≤ 900000) (h : ∀ σ', MI σ' A → Q (fComes A c) σ') : wp_M_comes c σ Q := by
  have hn := hW.n
  obtain ⟨s1, s2, s3, s4, s5, s6⟩ := hC.s
  have hd := hW.2.1.1
  have hd2 := hW.2.1.2.1
  have hb := hW.2.1.2.2.1
  have hb2 := hW.2.1.2.2.2.1
  unfold wp_M_comes
  unfold fComes at h
  refine isHomeM hC hW (fun ha => ⟨fun _ => ?_, fun q => absurd q (by decide)⟩) (fun ha => ⟨fun q => absurd rfl q, fun _ => ?_⟩)
  · refine sp_layMinutes hC.N (Or.inl rfl) (by rw [s2]; omega) (by rw [s1]; omega) (fun σ' hF hv => ?_)
    have hC' := hC.fr hF (by decide)
    refine sp_arrives hC'.N ha ?_ ?_
    · rw [hv c ha.1 ha.2, hC'.2.1.1, hC.2.1.1, s2]
    · rw [hC'.2.1.1]
      have q := h σ' hC'
      rw [if_pos ha] at q
      unfold tv at q
      exact ⟨fun z => by rw [if_neg (by omega)] at q; exact q, fun z => by rw [if_pos (by omega)] at q; exact q⟩
  · have q := h σ hC
    rw [if_neg ha] at q
    exact q
theorem latestM {σ : MS} {A : AT} {B : Int} {Q : Int → MS → Prop} (hC : MI σ A) (hW : WF B A) (hB : B ≤ 900000) (h : ∀ σ', MI σ' A → Q (who (aV A) (aS A) 0) σ') : wp_M_latest 13 0 σ Q := by
  obtain ⟨s1, s2, s3, s4, s5, s6⟩ := hC.s
  have hd := hW.2.1.1
  have hd2 := hW.2.1.2.1
  have hb := hW.2.1.2.2.1
  have hb2 := hW.2.1.2.2.2.1
  refine sp_latest hC.N (Or.inl rfl) (by rw [s2]; omega) (by rw [s1]; omega) (fun σ' hF _ => ?_)
  rw [hC.2.1.1]
  exact h σ' (hC.fr hF (by decide))
theorem sp_M_last {σ : MS} {A : AT} {B : Int} {Q : Int → MS → Prop} (hC : MI σ A) (hW : WF B A) (hB : B ≤ 900000) (h : ∀ σ', MI σ' A → Q (fLast A) σ') : wp_M_last σ Q := latestM hC hW hB h
/-- the row of now, and nothing else that is held -/
theorem MI.nw {σ σ' : MS} {A : AT} {s : ST} {ks : List Nat} (h : MI σ A) (hF : Fr ks σ σ') (hk : ∀ k ∈ ks, k = 13 ∨ k = 15) (hS : stR (gI σ' 13) = s) (hO : MO (gI σ' 13 4)) : MI σ' (wS A s) := by
  have n : ∀ k, ¬ k = 13 → ¬ k = 15 → k ∉ ks := fun k h1 h2 q => by have := hk k q; omega
  have e0 := hF.gI (n 0 (by decide) (by decide))
  obtain ⟨h1, -, ⟨h3, h3b, h3c, h3d⟩, ⟨h4, h4b, h4c⟩, ⟨h5, h5b⟩, h6, h6b⟩ := h
  refine ⟨h1.fr (fun k hk => hF.gI (n k (by omega) (by omega))) (e0 12) (e0 13), ⟨hS, hO⟩, ⟨h3, by rw [e0]; exact h3b, by rw [e0]; exact h3c, fun i i1 i2 => ?_⟩, ⟨h4, by rw [e0]; exact h4b, fun i i1 i2 => ?_⟩, ⟨by rw [e0]; exact h5, fun i i1 i2 => ?_⟩, by rw [e0]; exact h6, fun i i1 i2 => ?_⟩
  · simp only [e0, hF.gI (n 16 (by decide) (by decide))]; exact h3d i i1 i2
  · simp only [hF.gI (n 22 (by decide) (by decide))]; exact h4c i i1 i2
  · simp only [hF.gI (n 19 (by decide) (by decide))]; exact h5b i i1 i2
  · rw [hF.gI (n 1 (by decide) (by decide))]; exact h6b i i1 i2
theorem MI.st {σ : MS} {A : AT} {B : Int} (h : MI σ A) (hW : WF B A) : STB B (vN (aV A)) (stR (gI σ 13)) := by
  rw [h.2.1.1]
  exact hW.2.1
theorem sp_M_pass {σ : MS} {A : AT} {B n : Int} {Q : Int → MS → Prop} (hC : MI σ A) (hW : WF B A) (hB : 0 ≤ B ∧ B ≤ 900000) (h : ∀ σ', MI σ' (nPass A n) → Q (fPass A n) σ') : wp_M_pass n σ Q := by
  unfold wp_M_pass
  unfold nPass fPass at h
  refine sp_Min (fun c => ⟨fun _ => ?_, fun q => absurd q (by decide)⟩) (fun c => ⟨fun q => absurd rfl q, fun _ => ?_⟩)
  · rw [if_pos c, if_pos c] at h
    refine sp_remember hC (fun s1 hC1 h13 => ?_)
    have e1 : stR (gI s1 13) = aS A := by rw [hC1.2.1.1, aS_push]
    refine ⟨(fun x s => 0 ≤ x ∧ x ≤ n ∧ MI s (wS (push A) (gbyN (aV A) x.toNat (aS A)))), (fun x _ => (n - x).toNat), ⟨by omega, by omega, ?_⟩, ?_⟩
    · have := hC1.nw (s := aS A) (ks := []) Fr.rf (by simp) e1 hC1.2.1.2
      exact this
    rintro x1 s2 ⟨g0, g1, hC2⟩
    have eV : aV (wS (push A) (gbyN (aV A) x1.toNat (aS A))) = aV A := aV_push A
    have hN2 := hC2.N
    rw [eV] at hN2
    have hS2 : stR (gI s2 13) = gbyN (aV A) x1.toNat (aS A) := hC2.2.1.1
    refine ⟨⟨by omega, by omega⟩, fun c2 => ?_, fun c2 => ?_⟩
    · have ex : x1.toNat = n.toNat := by omega
      rw [ex] at hC2 hS2
      have q := h s2 hC2
      rw [← hS2] at q
      exact q
    · have hin := gbyN_in hW.1 hW.2.1 x1.toNat
      refine sp_MgoesBy (B := B + x1.toNat) hN2 (Or.inl rfl) (by omega) (by rw [hS2]; exact hin) (fun s3 hF3 hN3 hS3 h4 => ?_)
      intro x2 e2
      refine ⟨⟨by omega, by omega, ?_⟩, by dsimp only; omega⟩
      rw [hS2] at hS3
      have q := hC2.nw (s := gbyN (aV A) x2.toNat (aS A)) hF3 (by decide) (by rw [hS3, show x2.toNat = x1.toNat + 1 by omega]; rfl) (by rw [h4]; exact hC2.2.1.2)
      exact q
  · rw [if_neg c, if_neg c] at h; exact h σ hC
theorem MI.w13 {σ : MS} {A : AT} (h : MI σ A) {j v : Int} {s : ST} (hj : ¬ j = 4) (hS : stR (gI (sI σ 13 j v) 13) = s) : MI (sI σ 13 j v) (wS A s) :=
  h.nw (Fr.I (ks := [13]) (by decide) j v) (by decide) hS (by rw [gI_nj (fun z => hj z.symm)]; exact h.2.1.2)
theorem sp_M_keepBack {σ : MS} {A : AT} {B c : Int} {Q : Int → MS → Prop} (hC : MI σ A) (hW : WF B A) (h : ∀ σ', MI σ' (nKeepBack A c) → Q (fKeepBack A c) σ') : wp_M_keepBack c σ Q := by
  unfold wp_M_keepBack
  unfold nKeepBack fKeepBack at h
  refine isHomeM hC hW (fun ha => ⟨fun _ => ?_, fun q => absurd q (by decide)⟩) (fun ha => ⟨fun q => absurd rfl q, fun _ => ?_⟩)
  · rw [if_pos ha, if_pos ha] at h
    refine sp_remember hC (fun s1 hC1 h13 => ?_)
    intro s2 e2
    have e1 : stR (gI s1 13) = aS A := by rw [hC1.2.1.1, aS_push]
    have e3 : gI s1 13 2 = tHeld (aS A) := by rw [← e1]; rfl
    rw [e3] at e2
    have hS : stR (gI s2 13) = tSetHeld (aS A) (ixor (tHeld (aS A)) (ishl 1 c)) := by
      rw [e2, ← e1]
      unfold stR tSetHeld
      rw [gI_eq, gI_nj (by decide), gI_nj (by decide), gI_nj (by decide), gI_nj (by decide), gI_nj (by decide)]
      congr 1
      funext y
      show (if _ then _ else _) = (if _ then _ else _)
      by_cases hy : 0 ≤ y ∧ y < 7
      · rw [if_pos hy, if_pos hy, gI_nj (by omega)]
      · rw [if_neg hy, if_neg hy]
    have v : gI s2 13 2 = ixor (tHeld (aS A)) (ishl 1 c) := by rw [e2, gI_eq]
    rw [v]
    refine h s2 ?_
    rw [e2] at hS ⊢
    exact hC1.w13 (by decide) hS
  · rw [if_neg ha, if_neg ha] at h; exact h σ hC
theorem sp_M_sick {σ : MS} {A : AT} {B c : Int} {Q : Int → MS → Prop} (hC : MI σ A) (hW : WF B A) (h : ∀ σ', MI σ' (nSick A c) → Q (fSick A c) σ') : wp_M_sick c σ Q := by
  unfold wp_M_sick
  unfold nSick fSick at h
  refine isHomeM hC hW (fun ha => ⟨fun _ => ?_, fun q => absurd q (by decide)⟩) (fun ha => ⟨fun q => absurd rfl q, fun _ => ?_⟩)
  · rw [if_pos ha, if_pos ha] at h
    refine sp_remember hC (fun s1 hC1 h13 => ?_)
    intro s2 e2
    have e1 : stR (gI s1 13) = aS A := by rw [hC1.2.1.1, aS_push]
    have e3 : gI s1 13 3 = tSick (aS A) := by rw [← e1]; rfl
    rw [e3] at e2
    have hS : stR (gI s2 13) = tSetSick (aS A) (ixor (tSick (aS A)) (ishl 1 c)) := by
      rw [e2, ← e1]
      unfold stR tSetSick
      rw [gI_eq, gI_nj (by decide), gI_nj (by decide), gI_nj (by decide), gI_nj (by decide), gI_nj (by decide)]
      congr 1
      funext y
      show (if _ then _ else _) = (if _ then _ else _)
      by_cases hy : 0 ≤ y ∧ y < 7
      · rw [if_pos hy, if_pos hy, gI_nj (by omega)]
      · rw [if_neg hy, if_neg hy]
    have v : gI s2 13 3 = ixor (tSick (aS A)) (ishl 1 c) := by rw [e2, gI_eq]
    rw [v]
    refine h s2 ?_
    rw [e2] at hS ⊢
    exact hC1.w13 (by decide) hS
  · rw [if_neg ha, if_neg ha] at h; exact h σ hC
theorem bit_xor {m k c : Nat} (hm : m < 2097152) (hk : k < 21) (hc : c < 21) : bitI (ixor (m : Int) (ishl 1 (k : Int))) (c : Int) = if c = k then 1 - bitI (m : Int) (c : Int) else bitI (m : Int) (c : Int) := by
  have e := ishl1 (c := (k : Int)) (by omega) (by omega)
  rw [Int.toNat_natCast] at e
  have hp : 2 ^ k ≤ 2 ^ 20 := Nat.pow_le_pow_right (by decide) (by omega)
  have hx : m ^^^ 2 ^ k < 2 ^ 21 := Nat.xor_lt_two_pow (by omega) (by omega)
  rw [e, ixor_nat (by omega) (by omega), bitI_nat (by omega) (by omega), bitI_nat (by omega) (by omega), Nat.testBit_xor, Nat.testBit_two_pow]
  by_cases z : c = k
  · rw [if_pos z, decide_eq_true z.symm, Bool.xor_true]
    cases m.testBit c <;> rfl
  · rw [if_neg z, decide_eq_false (fun q => z q.symm), Bool.xor_false]
theorem prM_in {a b : Int} (ha : 0 ≤ a ∧ a < 7) (hb : 0 ≤ b ∧ b < 7) (hab : ¬ a = b) : 0 ≤ prM a b ∧ prM a b < 21 := by
  have key : ∀ a b : Fin 7, ¬ a = b → 0 ≤ prM ((a.val : Nat) : Int) ((b.val : Nat) : Int) ∧ prM ((a.val : Nat) : Int) ((b.val : Nat) : Int) < 21 := by decide +kernel
  have := key ⟨a.toNat, by omega⟩ ⟨b.toNat, by omega⟩ (fun z => hab (by have := congrArg Fin.val z; simp only at this; omega))
  simp only [show ((a.toNat : Nat) : Int) = a by omega, show ((b.toNat : Nat) : Int) = b by omega] at this
  exact this
theorem prM_inj {a b c d : Int} (ha : 0 ≤ a) (hab : a < b) (hb : b < 7) (hc : 0 ≤ c) (hcd : c < d) (hd : d < 7) (h : d * (d - 1) / 2 + c = b * (b - 1) / 2 + a) : c = a ∧ d = b := by
  have key : ∀ a b c d : Fin 7, a.val < b.val → c.val < d.val → ((d.val : Nat) : Int) * (((d.val : Nat) : Int) - 1) / 2 + ((c.val : Nat) : Int) = ((b.val : Nat) : Int) * (((b.val : Nat) : Int) - 1) / 2 + ((a.val : Nat) : Int) → c.val = a.val ∧ d.val = b.val := by decide +kernel
  have := key ⟨a.toNat, by omega⟩ ⟨b.toNat, by omega⟩ ⟨c.toNat, by omega⟩ ⟨d.toNat, by omega⟩ (by show a.toNat < b.toNat; omega) (by show c.toNat < d.toNat; omega)
  simp only [show ((a.toNat : Nat) : Int) = a by omega, show ((b.toNat : Nat) : Int) = b by omega, show ((c.toNat : Nat) : Int) = c by omega, show ((d.toNat : Nat) : Int) = d by omega] at this
  have := this h
  omega
theorem shM_xor {a b z : Int} (ha : 0 ≤ a ∧ a < 7) (hb : 0 ≤ b ∧ b < 7) (hab : ¬ a = b) (hz : MO z) : shM (ixor z (ishl 1 (prM a b))) = flip2 (shM z) a b ∧ MO (ixor z (ishl 1 (prM a b))) := by
  obtain ⟨m, rfl⟩ := Int.eq_ofNat_of_zero_le hz.1
  have hm : m < 2097152 := by have := hz.2; omega
  have hp := prM_in ha hb hab
  obtain ⟨k, hk⟩ := Int.eq_ofNat_of_zero_le hp.1
  rw [hk]
  refine ⟨?_, ?_⟩
  · funext c d
    unfold flip2 shM
    by_cases q : 0 ≤ c ∧ c < d ∧ d < 7
    · rw [decide_eq_true q, Bool.true_and, Bool.true_and]
      have hcd := prM_in (a := c) (b := d) ⟨q.1, by omega⟩ ⟨by omega, q.2.2⟩ (by omega)
      have e2 : prM c d = d * (d - 1) / 2 + c := by unfold prM; rw [show max c d = d by omega, show min c d = c by omega]
      rw [e2] at hcd
      obtain ⟨j, hj⟩ := Int.eq_ofNat_of_zero_le hcd.1
      rw [hj, bit_xor hm (by omega) (by omega)]
      by_cases e : c = min a b ∧ d = max a b
      · rw [if_pos e, if_pos (by
          have : prM a b = d * (d - 1) / 2 + c := by unfold prM; rw [e.1, e.2]
          omega)]
        have := bitI_01 (m : Int) (j : Int)
        rcases this with w | w
        · rw [w]; decide
        · rw [w]; decide
      · rw [if_neg e, if_neg (fun z => ?_)]
        apply e
        have e3 : prM a b = max a b * (max a b - 1) / 2 + min a b := rfl
        have := prM_inj (a := min a b) (b := max a b) (c := c) (d := d) (by omega) (by omega) (by omega) q.1 q.2.1 q.2.2 (by omega)
        exact this
    · rw [decide_eq_false q, Bool.false_and, Bool.false_and, if_neg (by omega)]
  · have e := ishl1 (c := (k : Int)) (by omega) (by omega)
    rw [Int.toNat_natCast] at e
    have hpk : 2 ^ k ≤ 2 ^ 20 := Nat.pow_le_pow_right (by decide) (by omega)
    have hx : m ^^^ 2 ^ k < 2 ^ 21 := Nat.xor_lt_two_pow (by omega) (by omega)
    rw [e, ixor_nat (by omega) (by omega)]
    exact ⟨by omega, by omega⟩
theorem sp_M_shut {σ : MS} {A : AT} {B a b : Int} {Q : Int → MS → Prop} (hC : MI σ A) (hW : WF B A) (h : ∀ σ', MI σ' (nShut A a b) → Q (fShut A a b) σ') : wp_M_shut a b σ Q := by
  have hn := hW.n
  unfold wp_M_shut
  unfold nShut fShut at h
  refine isHomeM hC hW (fun ha => ⟨fun q => absurd q (by decide), fun _ => isHomeM hC hW (fun hb => ⟨fun q => absurd q (by decide), fun _ => ⟨fun c => ⟨⟨by omega, by omega⟩, ?_⟩, fun c => ?_⟩⟩) (fun hb => ⟨fun _ => ?_, fun q => absurd rfl q⟩)⟩) (fun ha => ⟨fun _ => ?_, fun q => absurd rfl q⟩)
  · rw [hC.N.w ha hb c]
    refine ⟨fun q => ?_, fun q => ?_⟩
    · rw [if_pos ⟨⟨ha, hb, c⟩, q⟩, if_pos ⟨ha, hb, c⟩, if_neg q] at h
      have ha7 : 0 ≤ a ∧ a < 7 := ⟨ha.1, by omega⟩
      have hb7 : 0 ≤ b ∧ b < 7 := ⟨hb.1, by omega⟩
      refine sp_remember hC (fun s1 hC1 h13 => sp_Mpair ha7 hb7 ?_)
      intro s2 e2
      refine sp_Mpair ha7 hb7 ?_
      have e1 : stR (gI s1 13) = aS A := by rw [hC1.2.1.1, aS_push]
      obtain ⟨x1, x2⟩ := shM_xor ha7 hb7 c hC1.2.1.2
      have esh : shM (gI s1 13 4) = tShut (aS A) := by rw [← e1]; rfl
      rw [esh] at x1
      have v : gI s2 13 4 = ixor (gI s1 13 4) (ishl 1 (prM a b)) := by rw [e2, gI_eq]
      have hS : stR (gI s2 13) = tSetShut (aS A) (flip2 (tShut (aS A)) a b) := by
        rw [← x1, ← v, ← e1]
        unfold stR tSetShut
        rw [e2, gI_nj (by decide), gI_nj (by decide), gI_nj (by decide), gI_nj (by decide), gI_nj (by decide)]
        congr 1
        funext y
        show (if _ then _ else _) = (if _ then _ else _)
        by_cases hy : 0 ≤ y ∧ y < 7
        · rw [if_pos hy, if_pos hy, gI_nj (by omega)]
        · rw [if_neg hy, if_neg hy]
      have q2 := h s2 (hC1.nw (ks := [13]) (by rw [e2]; exact Fr.I (by decide) _ _) (by decide) hS (by rw [v]; exact x2))
      have hb' : decide (bitI (gI s2 13 4) (prM a b) = 1) = !tShut (aS A) (min a b) (max a b) := by
        have z : shM (gI s2 13 4) (min a b) (max a b) = decide (bitI (gI s2 13 4) (prM a b) = 1) := by
          unfold shM prM
          rw [decide_eq_true (by omega), Bool.true_and]
        rw [← z, v, x1]
        unfold flip2
        rw [if_pos ⟨rfl, rfl⟩]
      show Q (bitI (gI s2 13 4) (prM a b)) s2
      have h01 := bitI_01 (gI s2 13 4) (prM a b)
      by_cases z : tShut (aS A) (min a b) (max a b) = true
      · rw [z] at hb'
        have : ¬ bitI (gI s2 13 4) (prM a b) = 1 := of_decide_eq_false hb'
        rw [if_pos z] at q2
        rw [show bitI (gI s2 13 4) (prM a b) = 0 by omega]
        exact q2
      · have z' : tShut (aS A) (min a b) (max a b) = false := Bool.eq_false_iff.2 z
        rw [z'] at hb'
        have : bitI (gI s2 13 4) (prM a b) = 1 := of_decide_eq_true hb'
        rw [if_neg z] at q2
        rw [this]
        exact q2
    · rw [if_neg (fun z => z.2 q), if_pos ⟨ha, hb, c⟩, if_pos q] at h; exact h σ hC
  · rw [if_neg (fun z => z.1.2.2 c), if_neg (fun z => z.2.2 c)] at h; exact h σ hC
  · rw [if_neg (fun z => hb z.1.2.1), if_neg (fun z => hb z.2.1)] at h; exact h σ hC
  · rw [if_neg (fun z => ha z.1.1), if_neg (fun z => ha z.1)] at h; exact h σ hC
