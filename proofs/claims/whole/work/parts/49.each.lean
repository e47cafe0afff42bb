/-! ===== the class's each ===== -/
def wp_go (p2 : Nat) (s0 : MS) (Q : MS → Prop) : Prop :=
  wp_Noon_homes s0 (fun (r1 : Int) =>
   wp_Search_begin p2 r1 s0 (fun s1 : MS =>
    ∃ (I1 : Int → MS → Prop) (μ1 : Int → MS → Nat), I1 0 s1 ∧ ∀ (x1 : Int) (s2 : MS), I1 x1 s2 →
     Rng x1 ∧
     (28 ≤ x1 →
     wp_Search_isWholeBy x1 s2 (fun (r3 : Int) =>
      (r3 = 0 →
       ∀ s3 : MS, s3 = sI s2 25 9 (-4) →
        ((gI s3 25 9) = (-4) →
        Q s3) ∧
        (¬ (gI s3 25 9) = (-4) →
        wp_Search_findHopeful s3 (fun s4 : MS =>
         wp_Search_findRow s4 (fun s5 : MS =>
          Q s5)))) ∧
       (¬ r3 = 0 →
       ∀ s6 : MS, s6 = sI s2 25 9 x1 →
        ((gI s6 25 9) = (-4) →
        Q s6) ∧
        (¬ (gI s6 25 9) = (-4) →
        wp_Search_findHopeful s6 (fun s7 : MS =>
         wp_Search_findRow s7 (fun s8 : MS =>
          Q s8)))))) ∧
     (¬ 28 ≤ x1 →
     wp_Search_isWholeBy x1 s2 (fun (r8 : Int) =>
      (¬ r8 = 0 →
       wp_Search_isWholeBy x1 s2 (fun (r9 : Int) =>
        (r9 = 0 →
         ∀ s9 : MS, s9 = sI s2 25 9 (-4) →
          ((gI s9 25 9) = (-4) →
          Q s9) ∧
          (¬ (gI s9 25 9) = (-4) →
          wp_Search_findHopeful s9 (fun s10 : MS =>
           wp_Search_findRow s10 (fun s11 : MS =>
            Q s11)))) ∧
         (¬ r9 = 0 →
         ∀ s12 : MS, s12 = sI s2 25 9 x1 →
          ((gI s12 25 9) = (-4) →
          Q s12) ∧
          (¬ (gI s12 25 9) = (-4) →
          wp_Search_findHopeful s12 (fun s13 : MS =>
           wp_Search_findRow s13 (fun s14 : MS =>
            Q s14)))))) ∧
       (r8 = 0 →
       wp_Search_spread x1 s2 (fun s15 : MS =>
        ∀ x2 : Int, x2 = x1 + 1 →
         I1 x2 s15 ∧ μ1 x2 s15 < μ1 x1 s2))))))
theorem en_self (M0 : Nat) : ∀ h, en M0 M0 h = 0 := by
  intro h
  induction h with
  | zero => rfl
  | succ h ih =>
    show (if M0.testBit h = true then en M0 M0 h else en M0 M0 h + (if M0.testBit h = true then 2 ^ nm M0 h else 0)) = 0
    split
    · exact ih
    · rw [ih]
theorem sp_numberMissing {σ : MS} {n b : Int} {M0 : Nat} {Q : MS → Prop} (hn : 1 ≤ n ∧ n ≤ 7) (hb : 0 ≤ b ∧ b < n) (hM : M0 < 2 ^ n.toNat) (hMb : M0.testBit b.toNat = true) (h6 : gI σ 25 6 = n) (h5 : gI σ 60 5 = (M0 : Int))
    (h : ∀ σ', Fr [25, 29] σ σ' → NUM σ' n M0 → (∀ j, ¬ j = 7 → gI σ' 25 j = gI σ 25 j) → Q σ') : wp_Search_numberMissing σ Q := by
  have hk := nm6 hn hb hMb
  have hM7 := p7 hn hM
  unfold wp_Search_numberMissing
  refine ⟨(fun y x s => 0 ≤ x ∧ x ≤ 7 ∧ y = ((nm M0 (min x n).toNat : Nat) : Int) ∧ Fr [29] σ s ∧ ∀ h, 0 ≤ h → h < x → h < n → gI s 29 h = if M0.testBit h.toNat = true then -4 else ((nm M0 h.toNat : Nat) : Int)), (fun _ x _ => (7 - x).toNat), ⟨by omega, by omega, by rw [show (min (0 : Int) n).toNat = 0 by omega]; rfl, Fr.rf, fun h h1 h2 => by omega⟩, ?_⟩
  rintro y1 x1 s1 ⟨g0, g1, g2, hF, hv⟩
  rw [hF.gI (k := 25) (by decide), hF.gI (k := 60) (by decide), h6, h5]
  refine ⟨⟨by omega, by omega⟩, fun c => ?_, fun c => ⟨fun c1 => ⟨⟨by omega, by omega⟩, ?_⟩, fun c1 => ⟨fun c2 => ⟨⟨by omega, by omega⟩, ?_⟩, fun c2 => ?_⟩⟩⟩
  · have hx : (min x1 n).toNat = n.toNat := by omega
    rw [hx] at g2
    have e := ishl1 (c := y1) (by omega) (by omega)
    have h2 : 2 ^ nm M0 n.toNat ≤ 2 ^ 6 := Nat.pow_le_pow_right (by decide) hk
    have h3 : 1 ≤ 2 ^ nm M0 n.toNat := Nat.one_le_two_pow
    rw [g2, Int.toNat_natCast] at e
    have e' : ishl 1 y1 - 1 = ((2 ^ nm M0 n.toNat - 1 : Nat) : Int) := by
      rw [g2, e]
      generalize 2 ^ nm M0 n.toNat = z at *
      omega
    rw [e']
    refine ⟨⟨by omega, by omega⟩, ?_⟩
    intro s2 e2
    refine h s2 ?_ ⟨?_, ?_, fun a a1 a2 => ?_⟩ (fun j hj => ?_)
    · rw [e2]; exact (hF.mono (by decide)).tr (Fr.I (by decide) _ _)
    · rw [e2, gI_nj (by decide), hF.gI (by decide)]; exact h6
    · rw [e2, gI_eq]
    · rw [e2, gI_nk (by decide)]; exact hv a a1 (by omega) a2
    · rw [e2, gI_nj hj, hF.gI (by decide)]
  · intro s3 e3 x3 ex3 x4 ex4
    refine ⟨⟨by omega, by omega, ?_, by rw [e3]; exact hF.tr (Fr.I (by decide) _ _), fun a a1 a2 a3 => ?_⟩, by dsimp only; omega⟩
    · rw [ex3, g2, Int.add_zero]; congr 2; omega
    · rw [e3, gI_nj (by omega)]; exact hv a a1 (by omega) a3
  · intro s4 e4 x5 ex5 x6 ex6
    have hb' : M0.testBit x1.toNat = true := by
      have := bitI_nat (m := M0) (c := x1.toNat) (by omega) (by omega)
      rw [show ((x1.toNat : Nat) : Int) = x1 by omega] at this
      by_cases z : M0.testBit x1.toNat = true
      · exact z
      · rw [if_neg z] at this; exact absurd this c2
    refine ⟨⟨by omega, by omega, ?_, by rw [e4]; exact hF.tr (Fr.I (by decide) _ _), fun a a1 a2 a3 => ?_⟩, by dsimp only; omega⟩
    · rw [ex5, g2, Int.add_zero, show (min x6 n).toNat = x1.toNat + 1 by omega, show (min x1 n).toNat = x1.toNat by omega]
      show _ = (((if M0.testBit x1.toNat = true then nm M0 x1.toNat else nm M0 x1.toNat + 1 : Nat)) : Int)
      rw [if_pos hb']
    · by_cases e : a = x1
      · rw [e4, e, gI_eq, if_pos hb']
      · rw [e4, gI_nj e]; exact hv a a1 (by omega) a3
  · have hb' : ¬ M0.testBit x1.toNat = true := by
      have := bitI_nat (m := M0) (c := x1.toNat) (by omega) (by omega)
      rw [show ((x1.toNat : Nat) : Int) = x1 by omega] at this
      intro z
      rw [if_pos z] at this
      have c2' : bitI (M0 : Int) x1 = 0 := c2
      omega
    rw [show (min x1 n).toNat = x1.toNat by omega] at g2
    have hi := nm_in (n := n.toNat) (by omega) hb'
    refine ⟨⟨by omega, by omega⟩, fun c3 => by omega, fun c3 => ⟨⟨by omega, by omega⟩, ?_⟩⟩
    intro s6 e6 x9 ex9 x10 ex10
    refine ⟨⟨by omega, by omega, ?_, by rw [e6]; exact hF.tr (Fr.I (by decide) _ _), fun a a1 a2 a3 => ?_⟩, by dsimp only; omega⟩
    · rw [ex9, g2, show (min x10 n).toNat = x1.toNat + 1 by omega]
      show _ = (((if M0.testBit x1.toNat = true then nm M0 x1.toNat else nm M0 x1.toNat + 1 : Nat)) : Int)
      rw [if_neg hb']
      omega
    · by_cases e : a = x1
      · rw [e6, e, gI_eq, if_neg hb', g2]
      · rw [e6, gI_nj e]; exact hv a a1 (by omega) a3
def bgk : List Nat := [25, 26, 29, 60, 61, 62, 63]
theorem isS60 : isS 60 := by unfold isS; omega
theorem isS62 : isS 62 := by unfold isS; omega
theorem sp_sbegin {σ : MS} {V : VT} {M0 : Nat} {Q : MS → Prop} (hG : GX (nx V (stC σ 36)) (vN V) (gI σ 36 2) M0) (hM : gI σ 36 5 = (M0 : Int)) (hsh : shOK (gL σ 36 6))
    (h : ∀ σ', Fr bgk σ σ' → NUM σ' (vN V) M0 → stC σ' 60 = stC σ 36 → gL σ' 60 6 = gL σ 36 6 → (gI σ' 62 3 = 0 ∧ gI σ' 62 4 = tSick (stC σ 36) ∧ shX (gL σ' 62 6) = tShut (stC σ 36) ∧ shOK (gL σ' 62 6)) →
      RH σ' (nx V (stC σ 36)) (vN V) (gI σ 36 2) M0 0 → (∀ j : Int, 7 ≤ j → j < 203 → gL σ' 26 j = 0) → gI σ' 25 10 = 1 → Q σ') : wp_Search_begin 36 (vN V) σ Q := by
  have hn := hG.1
  have hb := hG.2.1
  unfold wp_Search_begin
  intro s1 e1
  have hF1 : Fr [25] σ s1 := by rw [e1]; exact Fr.I (by decide) _ _
  refine sp_copy isS60 isS36 (by decide) (fun s2 hF2 hS2 hL2 => ?_)
  refine sp_copy isS62 isS36 (by decide) (fun s3 hF3 hS3 hL3 => ?_)
  intro s4 e4 s5 e5
  have hF4 : Fr [62] s3 s4 := by rw [e4]; exact Fr.I (by decide) _ _
  have hF5 : Fr [25] s4 s5 := by rw [e5]; exact Fr.I (by decide) _ _
  have a36 : stC s1 36 = stC σ 36 := stC_Fr hF1 (by decide)
  have b36 : gL s1 36 6 = gL σ 36 6 := hF1.gL (by decide) 6
  have a36' : stC s2 36 = stC σ 36 := by rw [stC_Fr hF2 (by decide), a36]
  have b36' : gL s2 36 6 = gL σ 36 6 := by rw [hF2.gL (by decide), b36]
  have hS60 : stC s5 60 = stC σ 36 := by rw [stC_Fr hF5 (by decide), stC_Fr hF4 (by decide), stC_Fr hF3 (by decide), hS2, a36]
  have hL60 : gL s5 60 6 = gL σ 36 6 := by rw [hF5.gL (by decide), hF4.gL (by decide), hF3.gL (by decide), hL2, b36]
  have h60 : gI s5 60 5 = (M0 : Int) := by
    have : gI s5 60 5 = tHad (stC s5 60) := rfl
    rw [this, hS60]; exact hM
  have h25 : gI s5 25 6 = vN V := by rw [e5, gI_eq]
  have h10 : gI s5 25 10 = 1 := by rw [e5, gI_nj (by decide), hF4.gI (by decide), hF3.gI (by decide), hF2.gI (by decide), e1, gI_eq]
  have d3 : gI s5 62 3 = 0 := by rw [hF5.gI (by decide), e4, gI_eq]
  have d4 : gI s5 62 4 = tSick (stC σ 36) := by
    rw [hF5.gI (by decide), e4, gI_nj (by decide)]
    have : gI s3 62 4 = tSick (stC s3 62) := rfl
    rw [this, hS3, a36']
  have d6 : gL s5 62 6 = gL σ 36 6 := by
    rw [hF5.gL (by decide), e4]
    show gL s3 62 6 = _
    rw [hL3, b36']
  refine sp_numberMissing hn hb hG.2.2.1 hG.2.2.2.1 h25 h60 (fun s6 hF6 hU6 hk6 => ?_)
  have hFa : Fr bgk σ s6 := by
    refine ((((hF1.mono ?_).tr (hF2.mono ?_)).tr (hF3.mono ?_)).tr (hF4.mono ?_)).tr ((hF5.mono ?_).tr (hF6.mono ?_)) <;> decide
  refine ⟨(fun x s => 0 ≤ x ∧ x ≤ 203 ∧ Fr [26] s6 s ∧ ∀ j : Int, 0 ≤ j → j < x → gL s 26 j = 0), (fun x _ => (203 - x).toNat), ⟨by omega, by omega, Fr.rf, fun j j1 j2 => by omega⟩, ?_⟩
  rintro x1 s7 ⟨g0, g1, hF7, hv⟩
  have e36 : gI s7 36 2 = gI σ 36 2 := by rw [hF7.gI (by decide), hFa.gI (by decide)]
  rw [e36]
  refine ⟨⟨by omega, by omega⟩, fun c => ⟨⟨by omega, by omega⟩, ?_⟩, fun c => ⟨⟨by omega, by omega⟩, ?_⟩⟩
  · intro s8 e8
    have hF8 : Fr [26] s6 s8 := by rw [e8]; exact hF7.tr (Fr.L (by decide) _ _)
    refine h s8 (hFa.tr (hF8.mono (by decide))) (hU6.fr hF8 (by decide)) ?_ ?_ ⟨?_, ?_, ?_, ?_⟩ (fun a a1 a2 s => ?_) (fun j j1 j2 => ?_) ?_
    · rw [stC_Fr hF8 (by decide), stC_Fr hF6 (by decide)]; exact hS60
    · rw [hF8.gL (by decide), hF6.gL (by decide)]; exact hL60
    · rw [hF8.gI (by decide), hF6.gI (by decide)]; exact d3
    · rw [hF8.gI (by decide), hF6.gI (by decide)]; exact d4
    · rw [hF8.gL (by decide), hF6.gL (by decide), d6]; rfl
    · rw [hF8.gL (by decide), hF6.gL (by decide), d6]; exact hsh
    · rw [show ((0 : Nat) : Int) * 7 + a = a by omega, e8]
      by_cases e : a = gI σ 36 2
      · rw [e, gL_eq, inL_1]
        constructor
        · intro q; exact ⟨M0, ⟨rfl, rfl⟩, by rw [en_self, q]⟩
        · rintro ⟨x, ⟨-, rfl⟩, q⟩; rw [en_self] at q; exact q.symm
      · rw [gL_nj e, hv a a1 (by omega)]
        constructor
        · intro q; exact absurd q inL_0
        · rintro ⟨x, ⟨q, -⟩, -⟩; exact absurd q e
    · rw [e8, gL_nj (by omega)]; exact hv j (by omega) (by omega)
    · rw [hF8.gI (by decide), hk6 10 (by decide)]; exact h10
  · intro s9 e9 x2 e2
    refine ⟨⟨by omega, by omega, by rw [e9]; exact hF7.tr (Fr.L (by decide) _ _), fun j j1 j2 => ?_⟩, by dsimp only; omega⟩
    by_cases e : j = x1
    · rw [e9, e, gL_eq]
    · rw [e9, gL_nj e]; exact hv j j1 (by omega)
/-- what the search finds of a standing -/
def EK (σ : MS) (V : VT) (s : ST) : Prop := ∃ D, IsD (nx V s) (vN V) (tBell s) (tHad s) D ∧ gI σ 25 9 = D ∧ (¬ D = -4 → ∀ t : Int, 0 ≤ t → t < D → ∃ c, IsRow (nx V s) (vN V) (tBell s) (tHad s) D.toNat t.toNat c ∧ gI σ 30 t = rowV c)
def gok : List Nat := [17, 18, 19, 20, 25, 26, 27, 28, 29, 30, 60, 61, 62, 63]
theorem sp_go {σ : MS} {V : VT} {B : Int} {Q : MS → Prop} (hN : NI σ V) (hst : STB B (vN V) (stC σ 36)) (hB : B ≤ 800000) (hHB : bitI (tHad (stC σ 36)) (tBell (stC σ 36)) = 1) (hsh : shOK (gL σ 36 6))
    (h : ∀ σ', Fr gok σ σ' → NI σ' V → gR σ' 17 2 = gR σ 17 2 → stC σ' 60 = stC σ 36 → gI σ' 25 10 = 1 → EK σ' V (stC σ 36) → Q σ') : wp_go 36 σ Q := by
  have hW := hN.2.2.1
  obtain ⟨t1, t2, t3, t4, t5, t6, t7, t8, t9⟩ := hst
  obtain ⟨M0, hM⟩ := Int.eq_ofNat_of_zero_le t8
  have hMl : M0 < 2 ^ (vN V).toNat := by rw [hM] at t9; exact Int.ofNat_lt.1 t9
  have hn : 1 ≤ vN V ∧ vN V ≤ 7 := ⟨hW.1, hW.2.1⟩
  have hMb : M0.testBit (tBell (stC σ 36)).toNat = true := by
    have hM7 := p7 hn hMl
    have := bitI_nat (m := M0) (c := (tBell (stC σ 36)).toNat) (by omega) (by omega)
    rw [show (((tBell (stC σ 36)).toNat : Nat) : Int) = tBell (stC σ 36) by omega, ← hM, hHB] at this
    by_cases z : M0.testBit (tBell (stC σ 36)).toNat = true
    · exact z
    · rw [if_neg z] at this; exact absurd this (by decide)
  have hG : GX (nx V (stC σ 36)) (vN V) (gI σ 36 2) M0 := ⟨hn, ⟨t3, t4⟩, hMl, hMb, fun t h c h0 h1 => nx_in hW _ t h c h0 h1⟩
  unfold wp_go
  refine sp_homes hN ?_
  refine sp_sbegin hG hM hsh (fun s1 hF1 hU1 hS1 hL1 hD1 hR1 hz1 h101 => ?_)
  have hbell : tBell (stC σ 36) = gI σ 36 2 := rfl
  generalize hs : stC σ 36 = s at *
  rw [hbell] at hMb t3 t4
  generalize gI σ 36 2 = b at *
  have pthM : ∀ k : Nat, pth (nx V s) (vN V) k 0 b (M0 : Int) ↔ ∃ h x, rch (nx V s) (vN V) b M0 k h x ∧ (x : Int) = ishl 1 (vN V) - 1 := by
    intro k
    have := rch_pth hG k 0
    rw [Nat.zero_add] at this
    rw [← this]
    constructor
    · intro q; exact ⟨b, M0, ⟨rfl, rfl⟩, q⟩
    · rintro ⟨_, _, ⟨rfl, rfl⟩, q⟩; exact q
  -- the ends
  have end0 : ∀ z, Fr gok σ z → NI z V → gR z 17 2 = gR σ 17 2 → stC z 60 = s → gI z 25 10 = 1 → (∀ k : Nat, k ≤ 28 → ¬ pth (nx V s) (vN V) k 0 b (M0 : Int)) → ∀ z', z' = sI z 25 9 (-4) → (gI z' 25 9 = -4 → Q z') ∧ (¬ gI z' 25 9 = -4 → wp_Search_findHopeful z' (fun s7 => wp_Search_findRow s7 (fun s8 => Q s8))) := by
    intro z hF hNz hRz hSz h10 hp z' ez
    have e9 : gI z' 25 9 = -4 := by rw [ez, gI_eq]
    have hFz : Fr [25] z z' := by rw [ez]; exact Fr.I (by decide) _ _
    refine ⟨fun _ => h z' (hF.tr (hFz.mono (by decide))) (hNz.Fr hFz (by decide)) ((hFz.gR (by decide) 2).trans hRz) ?_ ?_ ⟨-4, Or.inl ⟨rfl, ?_⟩, e9, fun q => absurd rfl q⟩, fun q => absurd e9 q⟩
    · rw [stC_Fr hFz (by decide)]; exact hSz
    · rw [ez, gI_nj (by decide)]; exact h10
    · rw [hbell, hM]; exact hp
  have end1 : ∀ (z : MS) (t : Nat), t ≤ 28 → Fr gok σ z → NI z V → gR z 17 2 = gR σ 17 2 → stC z 60 = s → gI z 25 10 = 1 → NUM z (vN V) M0 → (∀ t', t' ≤ t → RH z (nx V s) (vN V) b M0 t') → (∀ t', t' < t → NX z (nx V s) (vN V) b M0 t') →
      pth (nx V s) (vN V) t 0 b (M0 : Int) → (∀ k : Nat, k < t → ¬ pth (nx V s) (vN V) k 0 b (M0 : Int)) → ∀ z', z' = sI z 25 9 t → (gI z' 25 9 = -4 → Q z') ∧ (¬ gI z' 25 9 = -4 → wp_Search_findHopeful z' (fun s7 => wp_Search_findRow s7 (fun s8 => Q s8))) := by
    intro z t ht hF hNz hRz hSz h10 hU hRH hNX hp hnp z' ez
    have e9 : gI z' 25 9 = (t : Int) := by rw [ez, gI_eq]
    have hFz : Fr [25] z z' := by rw [ez]; exact Fr.I (by decide) _ _
    have hU' : NUM z' (vN V) M0 := by
      obtain ⟨u1, u2, u3⟩ := hU
      refine ⟨by rw [ez, gI_nj (by decide)]; exact u1, by rw [ez, gI_nj (by decide)]; exact u2, fun a a1 a2 => by rw [hFz.gI (by decide)]; exact u3 a a1 a2⟩
    have hRH' : ∀ t', t' ≤ t → RH z' (nx V s) (vN V) b M0 t' := fun t' q a a1 a2 i => by rw [hFz.gL (by decide)]; exact hRH t' q a a1 a2 i
    have hNX' : ∀ t', t' < t → NX z' (nx V s) (vN V) b M0 t' := fun t' q a c a1 a2 a3 a4 a5 => by rw [hFz.gI (by decide)]; exact hNX t' q a c a1 a2 a3 a4 a5
    refine ⟨fun q => by rw [e9] at q; omega, fun _ => ?_⟩
    refine sp_findHopeful hG hU' ht e9 hRH' hNX' (fun s7 hF7 hH7 => ?_)
    have hNX7 : ∀ t', t' < t → NX s7 (nx V s) (vN V) b M0 t' := fun t' q a c a1 a2 a3 a4 a5 => by rw [hF7.gI (by decide)]; exact hNX' t' q a c a1 a2 a3 a4 a5
    have hS7 : stC s7 60 = s := by rw [stC_Fr hF7 (by decide), stC_Fr hFz (by decide)]; exact hSz
    have hb7 : gI s7 60 2 = b := by
      have : gI s7 60 2 = tBell (stC s7 60) := rfl
      rw [this, hS7]; exact hbell
    refine sp_findRow hG (hU'.fr hF7 (by decide)) ht (by rw [hF7.gI (by decide)]; exact e9) hb7 hNX7 hH7 hp (en_self _ _) (fun s8 hF8 hrow => ?_)
    have hF78 : Fr [27, 30] z' s8 := (hF7.mono (by decide)).tr (hF8.mono (by decide))
    refine h s8 ((hF.tr (hFz.mono (by decide))).tr (hF78.mono (by decide))) ((hNz.Fr hFz (by decide)).Fr hF78 (by decide)) ?_ ?_ ?_ ⟨(t : Int), Or.inr ⟨t, ht, rfl, ?_, ?_⟩, ?_, fun _ t' t1' t2' => ?_⟩
    · rw [hF78.gR (by decide), hFz.gR (by decide)]; exact hRz
    · rw [stC_Fr hF8 (by decide)]; exact hS7
    · rw [hF78.gI (by decide), ez, gI_nj (by decide)]; exact h10
    · rw [hbell, hM]; exact hp
    · rw [hbell, hM]; exact hnp
    · rw [hF78.gI (by decide)]; exact e9
    · rw [hbell, hM, Int.toNat_natCast]; exact hrow t' t1' t2'
  refine ⟨(fun x z => 0 ≤ x ∧ x ≤ 28 ∧ Fr gok σ z ∧ NI z V ∧ gR z 17 2 = gR σ 17 2 ∧ stC z 60 = s ∧ gI z 25 10 = 1 ∧ NUM z (vN V) M0 ∧ (gI z 62 3 = 0 ∧ gI z 62 4 = tSick s ∧ shX (gL z 62 6) = tShut s ∧ shOK (gL z 62 6)) ∧ (∀ t' : Nat, t' ≤ x → RH z (nx V s) (vN V) b M0 t') ∧ (∀ t' : Nat, t' < x → NX z (nx V s) (vN V) b M0 t') ∧ (∀ j : Int, (x + 1) * 7 ≤ j → j < 203 → gL z 26 j = 0) ∧ ∀ k : Nat, k < x → ¬ pth (nx V s) (vN V) k 0 b (M0 : Int)), (fun x _ => (28 - x).toNat), ⟨by omega, by omega, hF1.mono (by decide), hN.Fr hF1 (by decide), hF1.gR (by decide) 2, hS1, h101, hU1, hD1, fun t' q => by rw [show t' = 0 by omega]; exact hR1, fun t' q => by omega, fun j j1 j2 => hz1 j (by omega) j2, fun k q => by omega⟩, ?_⟩
  rintro x1 s2 ⟨g0, g1, hF2, hN2, hR2, hS2, h102, hU2, hD2, hRH2, hNX2, hz2, hp2⟩
  obtain ⟨t, rfl⟩ := Int.eq_ofNat_of_zero_le g0
  have hnp : ∀ k : Nat, k < t → ¬ pth (nx V s) (vN V) k 0 b (M0 : Int) := fun k q => hp2 k (by omega)
  have hRHt := hRH2 t (Int.le_refl _)
  refine ⟨⟨by omega, by omega⟩, fun c => ?_, fun c => ?_⟩
  · have ht : t = 28 := by omega
    refine sp_isWholeBy hG hU2 (by omega) hRHt (fun q => ⟨fun z => absurd z (by decide), fun _ z' ez => end1 s2 t (by omega) hF2 hN2 hR2 hS2 h102 hU2 (fun t' q => hRH2 t' (by omega)) (fun t' q => hNX2 t' (by omega)) ((pthM t).2 q) hnp z' ez⟩) (fun q => ⟨fun _ z' ez => end0 s2 hF2 hN2 hR2 hS2 h102 (fun k hk => ?_) z' ez, fun z => absurd rfl z⟩)
    by_cases e : k = t
    · rw [e]; exact fun z => q ((pthM t).1 z)
    · exact hnp k (by omega)
  · refine sp_isWholeBy hG hU2 (by omega) hRHt (fun q => ⟨fun _ => ?_, fun z => absurd z (by decide)⟩) (fun q => ⟨fun z => absurd rfl z, fun _ => ?_⟩)
    · exact sp_isWholeBy hG hU2 (by omega) hRHt (fun q => ⟨fun z => absurd z (by decide), fun _ z' ez => end1 s2 t (by omega) hF2 hN2 hR2 hS2 h102 hU2 (fun t' q => hRH2 t' (by omega)) (fun t' q => hNX2 t' (by omega)) ((pthM t).2 q) hnp z' ez⟩) (fun q' => absurd q q')
    · have d60 : gI s2 60 1 = tDay s := by
        have : gI s2 60 1 = tDay (stC s2 60) := rfl
        rw [this, hS2]
      refine sp_spread hN2 hG (by omega) hU2 ⟨t1, by omega⟩ d60 hD2 hRHt (fun j j1 j2 => hz2 j j1 j2) (fun s3 hF3 hN3 hR3 hD3 hRH3 hNX3 hk26 hk28 => ?_)
      intro x2 e2
      have ex : x2 = ((t + 1 : Nat) : Int) := by omega
      subst ex
      refine ⟨⟨by omega, by omega, hF2.tr (hF3.mono (by decide)), hN3, hR3.trans hR2, ?_, ?_, hU2.fr hF3 (by decide), hD3, fun t' q => ?_, fun t' q => ?_, fun j j1 j2 => ?_, fun k hk => ?_⟩, by dsimp only; omega⟩
      · rw [stC_Fr hF3 (by decide)]; exact hS2
      · rw [hF3.gI (by decide)]; exact h102
      · by_cases e : t' = t + 1
        · rw [e]; exact hRH3
        · intro a a1 a2 i
          rw [hk26 _ (Or.inl (by omega))]
          exact hRH2 t' (by omega) a a1 a2 i
      · by_cases e : t' = t
        · rw [e]; exact hNX3
        · intro a c a1 a2 a3 a4 a5
          rw [hk28 _ (by omega)]
          exact hNX2 t' (by omega) a c a1 a2 a3 a4 a5
      · rw [hk26 _ (Or.inr (by omega))]
        exact hz2 j (by omega) j2
      · by_cases e : k = t
        · rw [e]; exact fun z => q ((pthM t).1 z)
        · exact hnp k (by omega)
theorem sp_isLike {σ : MS} {Q : Int → Prop} (h1 : gI σ 60 1 = gI σ 36 1 → gI σ 60 2 = gI σ 36 2 → gI σ 60 4 = gI σ 36 4 → gI σ 60 5 = gI σ 36 5 → gL σ 60 6 = gL σ 36 6 → Q 1) (h0 : Q 0) : wp_Standing_isLike 60 36 σ Q := by
  unfold wp_Standing_isLike
  exact ⟨fun _ => h0, fun a => ⟨fun _ => h0, fun b => ⟨fun _ => h0, fun c => ⟨fun _ => h0, fun d => ⟨fun _ => h0, fun e => h1 a b c d e⟩⟩⟩⟩⟩
def HB (s : ST) : Prop := bitI (tHad s) (tBell s) = 1
theorem sp_search {σ : MS} {A : AT} {B : Int} {Q : MS → Prop} (hC : CI σ A) (hW : WF B A) (hB : B ≤ 800000) (hH : HB (aS A)) (h : ∀ σ', CI σ' A → EK σ' (aV A) (aS A) → Q σ') : wp_Search_search 36 σ Q := by
  have go : wp_go 36 σ Q := by
    refine sp_go hC.N (hC.st hW) hB (by rw [hC.2.1.1]; exact hH) hC.2.1.2 (fun σ' hF hN hR hS h10 hE => ?_)
    rw [hC.2.1.1] at hE
    obtain ⟨c1, c2, c3, c4, c5, c6, c7⟩ := hC
    refine h σ' ⟨c1.N hF (by decide) hN hR, c2.fr hF (by decide), c3.fr hF (by decide), c4.fr hF (by decide), Or.inr ⟨h10, ?_⟩, c6.fr hF (by decide), c7.fr hF (by decide)⟩ hE
    show EK σ' (aV A) (stC σ' 60)
    rw [hS, c2.1]
    exact hE
  unfold wp_Search_search
  refine ⟨fun _ => go, fun c => ?_⟩
  refine sp_isLike (fun e1 e2 e4 e5 e6 => ⟨fun q => absurd q (by decide), fun _ => ?_⟩) ⟨fun _ => go, fun q => absurd rfl q⟩
  refine h σ hC ?_
  rcases hC.2.2.2.2.1 with q | ⟨-, q⟩
  · exact absurd q c
  · have q' : EK σ (aV A) (stC σ 60) := q
    have es : nx (aV A) (stC σ 60) = nx (aV A) (stC σ 36) := nx_cong e1 e4 (by show shX (gL σ 60 6) = shX (gL σ 36 6); rw [e6])
    rw [← hC.2.1.1]
    unfold EK at q' ⊢
    have eb : tBell (stC σ 60) = tBell (stC σ 36) := e2
    have eh : tHad (stC σ 60) = tHad (stC σ 36) := e5
    rw [es, eb, eh] at q'
    exact q'
theorem sp_B_each {σ : MS} {A : AT} {B k : Int} {Q : Int → MS → Prop} (hC : CI σ A) (hW : WF B A) (hB : B ≤ 800000) (hH : HB (aS A)) (h : ∀ σ' r, CI σ' A → rEach A k r → Q r σ') : wp_B_each k σ Q := by
  unfold wp_B_each
  refine ⟨fun c => h σ _ hC (Or.inl ⟨by omega, rfl⟩), fun c => ⟨fun c2 => ?_, fun c2 => h σ _ hC (Or.inl ⟨by omega, rfl⟩)⟩⟩
  refine sp_search hC hW hB hH (fun s1 hC1 hE => ?_)
  obtain ⟨D, d1, d2, d3⟩ := hE
  rw [d2]
  have hk : 0 ≤ k ∧ k ≤ 28 := ⟨by omega, c2⟩
  refine ⟨fun e => ⟨fun e3 => h s1 _ hC1 (Or.inr ⟨hk, D, d1, ?_⟩), fun e3 => ⟨⟨by omega, by omega⟩, ?_⟩⟩, fun e => h s1 _ hC1 (Or.inr ⟨hk, D, d1, ?_⟩)⟩
  · by_cases e2 : D = -4
    · exact Or.inl ⟨e2, rfl⟩
    · exact Or.inr ⟨e2, Or.inr (Or.inl ⟨e, e3, rfl⟩)⟩
  · have e2 : ¬ D = -4 := by omega
    obtain ⟨c', q1, q2⟩ := d3 e2 (k - 1) (by omega) (by omega)
    rw [q2]
    exact h s1 _ hC1 (Or.inr ⟨hk, D, d1, Or.inr ⟨e2, Or.inr (Or.inr ⟨e, by omega, c', q1, rfl⟩)⟩⟩)
  · by_cases e2 : D = -4
    · exact Or.inl ⟨e2, e2⟩
    · exact Or.inr ⟨e2, Or.inl ⟨e, rfl⟩⟩
