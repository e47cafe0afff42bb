theorem NI.kind {σ : MS} {V : VT} (h : NI σ V) {c : Int} (hc : 0 ≤ c ∧ c < vN V) : vKind V c = gI σ ((gR σ 17 2) + 1) c := by
  have hn := h.n
  rw [← h.2.1]
  show (if _ then _ else _) = _
  rw [if_pos ⟨hc.1, by omega⟩]
theorem NI.late {σ : MS} {V : VT} (h : NI σ V) {c : Int} (hc : 0 ≤ c ∧ c < vN V) : vLate V c = gI σ ((gR σ 17 2) + 2) c := by
  have hn := h.n
  rw [← h.2.1]
  show (if _ then _ else _) = _
  rw [if_pos ⟨hc.1, by omega⟩]
theorem NI.most {σ : MS} {V : VT} (h : NI σ V) : gI σ (gR σ 17 2) 7 = vMost V := by rw [← h.2.1]; rfl
theorem sp_walk {a k : Int} {Q : Int → Prop} (h : 0 ≤ a ∧ a ≤ 1000000) (hq : Q (walkI a k)) : wp_Noon_walk a k Q := by
  unfold wp_Noon_walk
  unfold walkI at hq
  refine ⟨fun c => ⟨fun c2 => ?_, fun c2 => ⟨⟨by omega, by omega⟩, ?_⟩⟩, fun c => ⟨⟨by omega, by omega⟩, ?_⟩⟩
  · rw [if_neg c, if_neg c2] at hq; exact hq
  · rw [if_neg c, if_pos c2] at hq; exact hq
  · rw [if_pos c] at hq; exact hq
theorem sp_timeOf {s : Nat} {c base : Int} {σ : MS} {V : VT} {Q : Int → Prop} (hN : NI σ V) (hc : 0 ≤ c ∧ c < vN V) (hb : 0 ≤ gI σ s 2 ∧ gI σ s 2 < vN V) (hbase : 0 ≤ base ∧ base ≤ 1323)
    (hf : ∀ a b, 0 ≤ a → a < vN V → 0 ≤ b → b < vN V → gI σ 18 (base + a * 7 + b) = dst V (gI σ s 1 % 28) (shX (gL σ s 6)) a b) (h : Q (tv V (stC σ s) c)) : wp_Noon_timeOf s c base σ Q := by
  have hW := hN.2.2.1
  have h7 := hW.2.1
  have et : tm V (stC σ s) c = if bitI (gI σ s 4) c = 1 then -1 else if c = gI σ s 2 then bitI (gI σ s 3) c * 20
      else if vMost V < dst V (gI σ s 1 % 28) (shX (gL σ s 6)) c (gI σ s 2) then -1
      else walkI (dst V (gI σ s 1 % 28) (shX (gL σ s 6)) c (gI σ s 2)) (vKind V c) + vLate V c + (if vKind V c = 3 then 15 else 0) + bitI (gI σ s 3) c * 20 := rfl
  have b1 := bitI_01 (gI σ s 4) c
  have b2 := bitI_01 (gI σ s 3) c
  have hl := hW.2.2.2.2.2.1 c
  have hd := dst_in hW (gI σ s 1 % 28) (shX (gL σ s 6)) c (gI σ s 2)
  have hw := walkI_in (k := vKind V c) hd.1 hd.2
  have e18 := hf c (gI σ s 2) hc.1 hc.2 hb.1 hb.2
  unfold tv at h
  unfold wp_Noon_timeOf
  refine ⟨fun (q1 : bitI (gI σ s 4) c = 0) => ?_, fun (q1 : ¬ bitI (gI σ s 4) c = 0) => ?_⟩
  · rw [if_neg (by omega)] at et
    intro x1 (e1 : x1 = bitI (gI σ s 3) c * 20)
    refine ⟨fun q2 => ?_, fun q2 => ?_⟩
    · rw [if_neg q2] at et
      rw [e18, hN.most, ← hN.kind hc, ← hN.late hc]
      refine ⟨⟨by omega, by omega⟩, fun q3 => ⟨⟨by omega, by omega⟩, fun q4 => ?_, fun q4 => ?_⟩, fun q3 => ?_⟩
      · rw [if_neg (by omega), if_neg q4] at et
        refine sp_walk hd ⟨⟨by omega, by omega⟩, ?_⟩
        rw [if_neg (by omega), et] at h
        rw [e1]
        exact h
      · rw [if_neg (by omega), if_pos q4] at et
        refine sp_walk hd ⟨⟨by omega, by omega⟩, ?_⟩
        rw [if_neg (by omega), et] at h
        rw [e1]
        exact h
      · rw [if_pos (by omega)] at et
        rw [et] at h
        exact h
    · rw [if_pos q2] at et
      rw [if_neg (by omega), et] at h
      refine ⟨⟨by omega, by omega⟩, ?_⟩
      rw [e1]
      exact h
  · rw [if_pos (by omega)] at et
    rw [et] at h
    exact h
theorem IsLast.no {f : Int → Int} {x w : Int} (h : IsLast f x w) (hx : f x < 0) : IsLast f (x + 1) w := by
  rcases h with ⟨rfl, h⟩ | ⟨b1, b2, b3, h⟩
  · refine Or.inl ⟨rfl, fun c c1 c2 => ?_⟩
    by_cases e : c = x
    · rw [e]; exact hx
    · exact h c c1 (by omega)
  · refine Or.inr ⟨b1, by omega, b3, fun c c1 c2 c3 => ?_⟩
    by_cases e : c = x
    · rw [e] at c3; omega
    · exact h c c1 (by omega) c3
theorem IsLast.fst {f : Int → Int} {x : Int} (h : IsLast f x (-4)) (h0 : 0 ≤ x) (hx : 0 ≤ f x) : IsLast f (x + 1) x := by
  rcases h with ⟨-, h⟩ | ⟨b1, b2, b3, h⟩
  · refine Or.inr ⟨h0, by omega, hx, fun c c1 c2 c3 => ?_⟩
    by_cases e : c = x
    · rw [e]; exact Or.inr ⟨rfl, Int.le_refl _⟩
    · have := h c c1 (by omega); omega
  · omega
theorem IsLast.old {f : Int → Int} {x w : Int} (h : IsLast f x w) (hw : ¬ w = -4) (hx : f x < f w) : IsLast f (x + 1) w := by
  rcases h with ⟨e, h⟩ | ⟨b1, b2, b3, h⟩
  · exact absurd e hw
  · refine Or.inr ⟨b1, by omega, b3, fun c c1 c2 c3 => ?_⟩
    by_cases e : c = x
    · rw [e]; exact Or.inl hx
    · exact h c c1 (by omega) c3
theorem IsLast.new {f : Int → Int} {x w : Int} (h : IsLast f x w) (hw : ¬ w = -4) (h0 : 0 ≤ x) (hx : ¬ f x < f w) : IsLast f (x + 1) x := by
  rcases h with ⟨e, h⟩ | ⟨b1, b2, b3, h⟩
  · exact absurd e hw
  · refine Or.inr ⟨h0, by omega, by omega, fun c c1 c2 c3 => ?_⟩
    by_cases e : c = x
    · rw [e]; exact Or.inr ⟨rfl, Int.le_refl _⟩
    · have := h c c1 (by omega) c3
      omega
theorem IsLast.in {f : Int → Int} {x w : Int} (h : IsLast f x w) (hw : ¬ w = -4) : 0 ≤ w ∧ w < x ∧ 0 ≤ f w := by
  rcases h with ⟨e, h⟩ | ⟨b1, b2, b3, h⟩
  · exact absurd e hw
  · exact ⟨b1, b2, b3⟩
theorem bit0 (c : Int) : bitI 0 c = 0 := by
  unfold bitI iand ishr
  have : (iI 0 >>> (iI c &&& 31)) = 0 := by
    rw [iI_0]
    simp
  rw [this]
  rfl
theorem who_0 {V : VT} (s : ST) (hn : 0 ≤ vN V) {w : Int} (h : IsLast (fun c => tm V s c) (vN V) w) : who V s 0 = w := by
  unfold who
  refine lst_eq ?_
  rw [show (((vN V).toNat : Nat) : Int) = vN V by omega]
  refine h.cong (fun c _ _ => Or.inl ?_)
  rw [if_neg (by rw [bit0]; decide)]
theorem ni4 {s : Nat} (hs : 36 ≤ s) : s ∉ [17, 18, 19, 20] := by
  intro q
  simp at q
  omega
theorem sp_gather {s : Nat} {σ : MS} {V : VT} {Q : MS → Prop} (hN : NI σ V) (hs : 36 ≤ s) (hday : 0 ≤ gI σ s 1 ∧ gI σ s 1 < 2147483648) (hb : 0 ≤ gI σ s 2 ∧ gI σ s 2 < vN V) (hsh : shOK (gL σ s 6))
    (h : ∀ σ', Fr [17, 18, 19, 20] σ σ' → gR σ' 17 2 = gR σ 17 2 → NI σ' V → (∀ c, 0 ≤ c → c < vN V → gI σ' 20 c = tv V (stC σ s) c) → gI σ' 17 4 = who V (stC σ s) 0 → gI σ' 17 5 = cmr V (stC σ s) → Q σ') : wp_Noon_gather s σ Q := by
  have hW := hN.2.2.1
  have h1 := hW.1
  have h7 := hW.2.1
  unfold wp_Noon_gather
  intro s1 e1 s2 e2
  have hN2 : NI s2 V := by rw [e2, e1]; exact hN.k17.k17
  have hF2 : Fr [17] σ s2 := by rw [e2, e1]; exact (Fr.I (by decide) _ _).tr (Fr.I (by decide) _ _)
  have ns : s ∉ [17] ∧ s + 1 ∉ [17] := ⟨fun q => by simp at q; omega, fun q => by simp at q; omega⟩
  rw [hF2.gI ns.1, hF2.gL ns.1]
  refine sp_readyFars hN2 hday (shOK_ne hsh) (fun s3 hF3 hN3 hf3 => ?_)
  have hF : Fr [17, 18, 19] σ s3 := (hF2.mono (by decide)).tr (hF3.mono (by decide))
  have ns3 : s ∉ [17, 18, 19] ∧ s + 1 ∉ [17, 18, 19] := ⟨fun q => by simp at q; omega, fun q => by simp at q; omega⟩
  have eS : stC s3 s = stC σ s := stC_Fr hF ns3
  have e4 : gI s3 17 4 = -4 := by
    rw [hF3.gI (by decide), e2, gI_nj (by decide), e1, gI_eq]
  have e5 : gI s3 17 5 = 0 := by
    rw [hF3.gI (by decide), e2, gI_eq]
  have e2R : gR s3 17 2 = gR σ 17 2 := by
    rw [hF3.gR (by decide), e2, e1]
    rfl
  refine ⟨(fun x z => 0 ≤ x ∧ x ≤ vN V ∧ Fr [17, 20] s3 z ∧ gR z 17 2 = gR s3 17 2 ∧ NI z V ∧ (∀ c, 0 ≤ c → c < x → gI z 20 c = tv V (stC σ s) c) ∧ gI z 17 5 = cnt (fun c => decide (0 ≤ tm V (stC σ s) c)) x.toNat ∧ IsLast (fun c => tm V (stC σ s) c) x (gI z 17 4)), (fun x _ => (vN V - x).toNat), ⟨by omega, by omega, Fr.rf, rfl, hN3, fun c c1 c2 => by omega, by rw [e5]; rfl, by rw [e4]; exact Or.inl ⟨rfl, fun c c1 c2 => by omega⟩⟩, ?_⟩
  rintro x1 s4 ⟨g0, g1, hF4, hR4, hN4, ht4, hc4, hl4⟩
  have hFa : Fr [17, 18, 19, 20] σ s4 := (hF.mono (by decide)).tr (hF4.mono (by decide))
  rw [hN4.n]
  refine ⟨⟨by omega, by omega⟩, fun c1 => ?_, fun c1 => ?_⟩
  · have hx : x1 = vN V := by omega
    subst hx
    refine h s4 hFa (hR4.trans e2R) hN4 (fun c c1 c2 => ht4 c c1 c2) ?_ ?_
    · exact (who_0 _ (by omega) hl4).symm
    · rw [hc4]; rfl
  · have n20 : s ∉ [17, 20] ∧ s + 1 ∉ [17, 20] := ⟨fun q => by simp at q; omega, fun q => by simp at q; omega⟩
    have eS4 : stC s4 s = stC σ s := (stC_Fr hF4 n20).trans eS
    have k1 : gI s4 s 1 = gI σ s 1 := (hF4.gI n20.1 1).trans (hF.gI ns3.1 1)
    have k2 : gI s4 s 2 = gI σ s 2 := (hF4.gI n20.1 2).trans (hF.gI ns3.1 2)
    have k6 : gL s4 s 6 = gL σ s 6 := (hF4.gL n20.1 6).trans (hF.gL ns3.1 6)
    have htm := tm_in hW (stC σ s) x1
    refine sp_timeOf hN4 ⟨g0, by omega⟩ (by rw [k2]; exact hb) ⟨by omega, by omega⟩ (fun a b a1 a2 b1 b2 => ?_) ?_
    · rw [hF4.gI (by decide), k1, k6]
      exact hf3 a b a1 a2 b1 b2
    · rw [eS4]
      refine ⟨⟨g0, by omega⟩, ?_⟩
      intro s5 e5'
      have hN5 : NI s5 V := by rw [e5']; exact hN4.k20
      have hF5 : Fr [17, 20] s3 s5 := by rw [e5']; exact hF4.tr (Fr.I (by decide) _ _)
      have g20 : gI s5 20 x1 = tv V (stC σ s) x1 := by rw [e5', gI_eq]
      have g20' : ∀ c, 0 ≤ c → c < x1 + 1 → gI s5 20 c = tv V (stC σ s) c := by
        intro c c1 c2
        by_cases e : c = x1
        · rw [e]; exact g20
        · rw [e5', gI_nj e]; exact ht4 c c1 (by omega)
      have g17 : ∀ j, gI s5 17 j = gI s4 17 j := fun j => by rw [e5', gI_nk (by decide)]
      have r17 : gR s5 17 2 = gR s3 17 2 := by rw [e5']; exact hR4
      have hcn := cnt_in (fun c => decide (0 ≤ tm V (stC σ s) c)) x1.toNat
      have ecs : cnt (fun c => decide (0 ≤ tm V (stC σ s) c)) (x1 + 1).toNat = gI s4 17 5 + (if 0 ≤ tm V (stC σ s) x1 then 1 else 0) := by
        rw [show (x1 + 1).toNat = x1.toNat + 1 by omega, hc4]
        show cnt _ _ + (if decide (0 ≤ tm V (stC σ s) ((x1.toNat : Nat) : Int)) = true then 1 else 0) = _
        rw [show ((x1.toNat : Nat) : Int) = x1 by omega]
        simp
      refine ⟨fun c2 => ?_, fun c2 => ?_⟩
      · have hpos : 0 ≤ tm V (stC σ s) x1 := by
          rw [g20] at c2
          unfold tv at c2
          by_cases q : tm V (stC σ s) x1 < 0
          · rw [if_pos q] at c2; omega
          · omega
        have etv : tv V (stC σ s) x1 = tm V (stC σ s) x1 := by unfold tv; rw [if_neg (by omega)]
        rw [if_pos hpos] at ecs
        refine ⟨by rw [g17, hc4]; constructor <;> omega, ?_⟩
        intro s6 e6
        have hN6 : NI s6 V := by rw [e6]; exact hN5.k17
        have hF6 : Fr [17, 20] s3 s6 := by rw [e6]; exact hF5.tr (Fr.I (by decide) _ _)
        have h20 : ∀ j, gI s6 20 j = gI s5 20 j := fun j => by rw [e6, gI_nk (by decide)]
        have h175 : gI s6 17 5 = gI s4 17 5 + 1 := by rw [e6, gI_eq, g17]
        have h174 : gI s6 17 4 = gI s4 17 4 := by rw [e6, gI_nj (by decide), g17]
        have r6 : gR s6 17 2 = gR s3 17 2 := by rw [e6]; exact r17
        have fin : ∀ (z : MS) (x : Int), x = x1 + 1 → z = sI s6 17 4 x1 → IsLast (fun c => tm V (stC σ s) c) (x1 + 1) x1 → 0 ≤ x ∧ x ≤ vN V ∧ Fr [17, 20] s3 z ∧ gR z 17 2 = gR s3 17 2 ∧ NI z V ∧ (∀ c, 0 ≤ c → c < x → gI z 20 c = tv V (stC σ s) c) ∧ gI z 17 5 = cnt (fun c => decide (0 ≤ tm V (stC σ s) c)) x.toNat ∧ IsLast (fun c => tm V (stC σ s) c) x (gI z 17 4) := by
          intro z x ex ez hl
          subst ex; subst ez
          refine ⟨by omega, by omega, hF6.tr (Fr.I (by decide) _ _), r6, hN6.k17, fun c c1 c2 => ?_, ?_, ?_⟩
          · rw [gI_nk (by decide), h20]; exact g20' c c1 c2
          · rw [gI_nj (by decide), h175, ecs]
          · rw [gI_eq]; exact hl
        refine ⟨fun c3 => ?_, fun c3 => ?_⟩
        · intro s7 e7 x2 e2'
          exact ⟨fin s7 x2 e2' e7 (by rw [h174] at c3; rw [c3] at hl4; exact hl4.fst g0 hpos), by dsimp only; omega⟩
        · rw [h174] at c3 ⊢
          have hin := hl4.in c3
          have hin3 : 0 ≤ tm V (stC σ s) (gI s4 17 4) := hin.2.2
          have eo : gI s6 20 (gI s4 17 4) = tm V (stC σ s) (gI s4 17 4) := by
            rw [h20, g20' _ hin.1 (by omega)]
            unfold tv
            rw [if_neg (by omega)]
          refine ⟨⟨hin.1, by omega⟩, fun c4 => ?_, fun c4 => ?_⟩
          · rw [eo, h20, g20, etv] at c4
            intro x3 e3
            subst e3
            exact ⟨⟨by omega, by omega, hF6, r6, hN6, fun c c1 c2 => by rw [h20]; exact g20' c c1 c2, by rw [h175, ecs], by rw [h174]; exact hl4.old c3 c4⟩, by dsimp only; omega⟩
          · rw [eo, h20, g20, etv] at c4
            intro s8 e8 x4 e4'
            exact ⟨fin s8 x4 e4' e8 (hl4.new c3 g0 c4), by dsimp only; omega⟩
      · have hneg : tm V (stC σ s) x1 < 0 := by
          rw [g20] at c2
          unfold tv at c2
          by_cases q : tm V (stC σ s) x1 < 0
          · exact q
          · rw [if_neg q] at c2; omega
        rw [if_neg (by omega)] at ecs
        intro x5 e5''
        subst e5''
        exact ⟨⟨by omega, by omega, hF5, r17, hN5, g20', by rw [g17, ecs]; omega, by rw [g17]; exact hl4.no hneg⟩, by dsimp only; omega⟩
