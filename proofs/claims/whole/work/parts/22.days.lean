theorem sp_homes {σ : MS} {V : VT} {Q : Int → Prop} (hN : NI σ V) (h : Q (vN V)) : wp_Noon_homes σ Q := by
  unfold wp_Noon_homes
  rw [hN.n]
  exact h
theorem n6 {s k : Nat} (hs : 36 ≤ s) (hk : k < 36 ∨ (k ≠ s ∧ k ≠ s + 1)) (hk2 : k < 17 ∨ 20 < k) : k ∉ [17, 18, 19, 20, s, s + 1] := by
  intro q
  simp at q
  omega
theorem sp_nGoBy {s : Nat} {B : Int} {σ : MS} {V : VT} {Q : MS → Prop} (hN : NI σ V) (hs : 36 ≤ s) (hB : 0 ≤ B ∧ B ≤ 1000000) (hst : STB B (vN V) (stC σ s)) (hsh : shOK (gL σ s 6))
    (h : ∀ σ', Fr [17, 18, 19, 20, s, s + 1] σ σ' → NI σ' V → gR σ' 17 2 = gR σ 17 2 → stC σ' s = gby V (stC σ s) → gL σ' s 6 = gL σ s 6 → Q σ') : wp_Noon_goBy s σ Q := by
  have hW := hN.2.2.1
  have h1 := hW.1
  have h7 := hW.2.1
  obtain ⟨t1, t2, t3, t4, t5, t6, t7, t8⟩ := hst
  have t1 : 0 ≤ gI σ s 1 := t1
  have t2 : gI σ s 1 ≤ B := t2
  have t3 : 0 ≤ gI σ s 2 := t3
  have t4 : gI σ s 2 < vN V := t4
  have hc := cmr_in hW (stC σ s)
  unfold wp_Noon_goBy
  refine sp_gather hN hs ⟨t1, by omega⟩ ⟨t3, t4⟩ hsh (fun s1 hF hR hN1 _ hl hcm => ?_)
  have ns : s ∉ [17, 18, 19, 20] := ni4 hs
  have ns1 : s + 1 ∉ [17, 18, 19, 20] := ni4 (by omega)
  have k : ∀ j, gI s1 s j = gI σ s j := hF.gI ns
  have kp : ∀ j, gI s1 (s + 1) j = gI σ (s + 1) j := hF.gI ns1
  have kL : ∀ j, gL s1 s j = gL σ s j := hF.gL ns
  have hsp : 0 ≤ gI σ (s + 1) (gI σ s 2) ∧ gI σ (s + 1) (gI σ s 2) ≤ 7 * B := by
    have q := t5 (gI σ s 2)
    have e : tSoup (stC σ s) (gI σ s 2) = gI σ (s + 1) (gI σ s 2) := by
      show (if _ then _ else _) = _
      rw [if_pos ⟨t3, by omega⟩]
    rw [e] at q
    exact q
  have hw := who_in hW (stC σ s) 0
  rw [k 2, kp, hcm]
  refine ⟨⟨t3, by omega⟩, ⟨by omega, by omega⟩, ?_⟩
  intro s2 e2
  have a2 : ∀ j, gI s2 s j = gI σ s j := fun j => by rw [e2, gI_nk (by omega), k]
  have b2 : ∀ j, gI s2 17 j = gI s1 17 j := fun j => by rw [e2, gI_nk (by omega)]
  have hNx : ∀ z : MS, NI z V → ∀ (q : Nat), (q = s ∨ q = s + 1) → ∀ (j v : Int), NI (sI z q j v) V := fun z hz q hq j v => hz.Fr (Fr.I (ks := [q]) (by simp) j v) (fun k' hk' => by simp at hk'; omega)
  have hFx : ∀ z : MS, Fr [17, 18, 19, 20, s, s + 1] σ z → ∀ (q : Nat), (q = s ∨ q = s + 1) → ∀ (j v : Int), Fr [17, 18, 19, 20, s, s + 1] σ (sI z q j v) := fun z hz q hq j v => hz.tr (Fr.I (by simp; omega) j v)
  have hF1 : Fr [17, 18, 19, 20, s, s + 1] σ s1 := hF.mono (fun q hq => by simp at hq ⊢; omega)
  have hF2 : Fr [17, 18, 19, 20, s, s + 1] σ s2 := by rw [e2]; exact hFx s1 hF1 _ (Or.inr rfl) _ _
  have hN2 : NI s2 V := by rw [e2]; exact hNx s1 hN1 _ (Or.inr rfl) _ _
  -- the end of both roads
  have fin : ∀ z : MS, Fr [17, 18, 19, 20, s, s + 1] σ z → NI z V → gR z 17 2 = gR σ 17 2 → gI z s 1 = gI σ s 1 + 1 → gI z s 2 = nxt V (stC σ s) → gI z s 3 = 0 → gI z s 4 = gI σ s 4 → gI z s 5 = ior (gI σ s 5) (ishl 1 (nxt V (stC σ s))) → (∀ j, gL z s j = gL σ s j) → (∀ j, gI z (s + 1) j = gI s2 (s + 1) j) → Q z := by
    intro z hFz hNz hRz z1 z2 z3 z4 z5 zL zs
    refine h z hFz hNz hRz ?_ (zL 6)
    unfold stC gby
    rw [z1, z2, z3, z4, z5, zL]
    show mkS _ _ _ _ _ _ _ = mkS _ _ _ _ _ _ _
    congr 1
    funext x
    show (if _ then _ else _) = (if x = gI σ s 2 then (if _ then _ else _) + _ else (if _ then _ else _))
    rw [zs, e2]
    by_cases hx : x = gI σ s 2
    · rw [hx, gI_eq, if_pos ⟨t3, by omega⟩, if_pos rfl, if_pos ⟨t3, by omega⟩]
      rfl
    · rw [gI_nj hx, kp, if_neg hx]
  refine ⟨fun c1 => ?_, fun c1 => ?_⟩
  · rw [b2, hl] at c1
    have ex : nxt V (stC σ s) = gI σ s 2 := by unfold nxt; rw [if_pos c1]; rfl
    intro s3 e3 s4 e4
    have d4 : gI s4 s 1 = gI σ s 1 := by rw [e4, gI_nj (by decide), e3, gI_nj (by decide), a2]
    rw [d4]
    refine ⟨⟨by omega, by omega⟩, ?_⟩
    intro s5 e5
    refine fin s5 ?_ ?_ ?_ ?_ ?_ ?_ ?_ ?_ ?_ ?_
    · rw [e5, e4, e3]; exact hFx _ (hFx _ (hFx _ hF2 _ (Or.inl rfl) _ _) _ (Or.inl rfl) _ _) _ (Or.inl rfl) _ _
    · rw [e5, e4, e3]; exact hNx _ (hNx _ (hNx _ hN2 _ (Or.inl rfl) _ _) _ (Or.inl rfl) _ _) _ (Or.inl rfl) _ _
    · rw [e5, e4, e3, e2]; exact hR
    · rw [e5, gI_eq]
    · rw [e5, gI_nj (by decide), e4, gI_nj (by decide), e3, gI_nj (by decide), a2, ex]
    · rw [e5, gI_nj (by decide), e4, gI_eq]
    · rw [e5, gI_nj (by decide), e4, gI_nj (by decide), e3, gI_nj (by decide), a2]
    · rw [e5, gI_nj (by decide), e4, gI_nj (by decide), e3, gI_eq, a2, a2, ex]
    · intro j; rw [e5, e4, e3, e2]; exact kL j
    · intro j; rw [e5, gI_nk (by omega), e4, gI_nk (by omega), e3, gI_nk (by omega)]
  · have hw' : ¬ who V (stC σ s) 0 = -4 := by rw [b2, hl] at c1; exact c1
    have ex : nxt V (stC σ s) = who V (stC σ s) 0 := by unfold nxt; rw [if_neg hw']
    intro s6 e6 s7 e7 s8 e8
    have a6 : gI s6 s 2 = nxt V (stC σ s) := by rw [e6, gI_eq, b2, hl, ex]
    have d4 : gI s8 s 1 = gI σ s 1 := by rw [e8, gI_nj (by decide), e7, gI_nj (by decide), e6, gI_nj (by decide), a2]
    rw [d4]
    refine ⟨⟨by omega, by omega⟩, ?_⟩
    intro s9 e9
    refine fin s9 ?_ ?_ ?_ ?_ ?_ ?_ ?_ ?_ ?_ ?_
    · rw [e9, e8, e7, e6]; exact hFx _ (hFx _ (hFx _ (hFx _ hF2 _ (Or.inl rfl) _ _) _ (Or.inl rfl) _ _) _ (Or.inl rfl) _ _) _ (Or.inl rfl) _ _
    · rw [e9, e8, e7, e6]; exact hNx _ (hNx _ (hNx _ (hNx _ hN2 _ (Or.inl rfl) _ _) _ (Or.inl rfl) _ _) _ (Or.inl rfl) _ _) _ (Or.inl rfl) _ _
    · rw [e9, e8, e7, e6, e2]; exact hR
    · rw [e9, gI_eq]
    · rw [e9, gI_nj (by decide), e8, gI_nj (by decide), e7, gI_nj (by decide), a6]
    · rw [e9, gI_nj (by decide), e8, gI_eq]
    · rw [e9, gI_nj (by decide), e8, gI_nj (by decide), e7, gI_nj (by decide), e6, gI_nj (by decide), a2]
    · rw [e9, gI_nj (by decide), e8, gI_nj (by decide), e7, gI_eq, a6, e6, gI_nj (by decide), a2]
    · intro j; rw [e9, e8, e7, e6, e2]; exact kL j
    · intro j; rw [e9, gI_nk (by omega), e8, gI_nk (by omega), e7, gI_nk (by omega), e6, gI_nk (by omega)]
theorem sp_bGoBy {s : Nat} {B n : Int} {σ : MS} {V : VT} {Q : MS → Prop} (hN : NI σ V) (hs : 36 ≤ s) (hn : 0 ≤ n ∧ n ≤ 60) (hB : 0 ≤ B ∧ B ≤ 999000) (hst : STB B (vN V) (stC σ s)) (hsh : shOK (gL σ s 6))
    (h : ∀ σ', Fr [17, 18, 19, 20, s, s + 1] σ σ' → NI σ' V → gR σ' 17 2 = gR σ 17 2 → stC σ' s = gbyN V n.toNat (stC σ s) → gL σ' s 6 = gL σ s 6 → Q σ') : wp_B_goBy s n σ Q := by
  unfold wp_B_goBy
  refine ⟨(fun x z => 0 ≤ x ∧ x ≤ n ∧ Fr [17, 18, 19, 20, s, s + 1] σ z ∧ NI z V ∧ gR z 17 2 = gR σ 17 2 ∧ stC z s = gbyN V x.toNat (stC σ s) ∧ gL z s 6 = gL σ s 6), (fun x _ => (n - x).toNat), ⟨by omega, by omega, Fr.rf, hN, rfl, rfl, rfl⟩, ?_⟩
  rintro x1 s1 ⟨g0, g1, hF, hN1, hR, hS, hL⟩
  refine ⟨⟨by omega, by omega⟩, fun c => ?_, fun c => ?_⟩
  · have : x1 = n := by omega
    subst this
    exact h s1 hF hN1 hR hS hL
  · have hin := gbyN_in hN.2.2.1 hst x1.toNat
    refine sp_nGoBy (B := B + x1.toNat) hN1 hs (by omega) (by rw [hS]; exact hin) (by rw [hL]; exact hsh) (fun s2 hF2 hN2 hR2 hS2 hL2 => ?_)
    intro x2 e2
    refine ⟨⟨by omega, by omega, hF.tr hF2, hN2, hR2.trans hR, ?_, hL2.trans hL⟩, by dsimp only; omega⟩
    rw [hS2, hS, show x2.toNat = x1.toNat + 1 by omega]
    rfl
