/-! ===== a day more of what can be reached ===== -/
theorem nx_0 (V : VT) (s : ST) (t h : Int) : nx V s t h 0 = if who V (chS s t h 0) 0 = -4 then h else who V (chS s t h 0) 0 := rfl
theorem chS_held0 (s : ST) (t h : Int) : tHeld (chS s t h 0) = 0 := rfl
theorem chS_c {s : ST} {t h c : Int} (hc : ¬ c = 0) : chS s t h c = tSetHeld (chS s t h 0) (ishl 1 (c - 1)) := by
  unfold chS
  rw [if_neg hc]
  rfl
theorem nx_c (V : VT) {s : ST} {t h c : Int} (hc : ¬ c = 0) : nx V s t h c = if who V (tSetHeld (chS s t h 0) (ishl 1 (c - 1))) 0 = -4 then h else who V (tSetHeld (chS s t h 0) (ishl 1 (c - 1))) 0 := by
  rw [← chS_c hc]
  rfl
theorem nx_in {V : VT} (hW : WFV V) (s : ST) (t h c : Int) (h0 : 0 ≤ h) (h1 : h < vN V) : 0 ≤ nx V s t h c ∧ nx V s t h c < vN V := nxt_in hW ⟨h0, h1⟩
def spk : List Nat := [17, 18, 19, 20, 62, 26, 28]
/-- those steps of day t that are done: of homes below h, and of h those choices below c -/
def dn (n h c h0 c0 : Int) : Prop := (h0 < h ∨ (h0 = h ∧ c0 < c)) ∧ 0 ≤ c0 ∧ c0 ≤ n
def SPI (g : Int → Int → Int → Int) (n b : Int) (M0 t : Nat) (h c : Int) (σ0 s : MS) : Prop :=
  Fr spk σ0 s ∧
  (∀ a, 0 ≤ a → a < n → ∀ i, inL (gL s 26 (((t : Int) + 1) * 7 + a)) i ↔ ∃ h0 x0 c0, rch g n b M0 t h0 x0 ∧ dn n h c h0 c0 ∧ a = g t h0 c0 ∧ en M0 (x0 ||| 2 ^ a.toNat) n.toNat = i) ∧
  (∀ j : Int, (j < ((t : Int) + 1) * 7 ∨ ((t : Int) + 2) * 7 ≤ j) → gL s 26 j = gL σ0 26 j) ∧
  (∀ h0 c0, 0 ≤ h0 → dn n h c h0 c0 → (∃ x, rch g n b M0 t h0 x) → gI s 28 (((t : Int) * 7 + h0) * 8 + c0) = g t h0 c0) ∧
  (∀ j : Int, j < (t : Int) * 56 → gI s 28 j = gI σ0 28 j)
theorem sp_step {g : Int → Int → Int → Int} {n b : Int} {M0 t : Nat} {h c to : Int} {y : Int64} {σ0 σ : MS} {R : Int → MS → Prop} (hG : GX g n b M0) (ht : t < 28) (hU : NUM σ n M0) (hh : 0 ≤ h ∧ h < n) (hc : 0 ≤ c ∧ c ≤ n) (hto : to = g t h c)
    (hy : ∀ i, inL y i ↔ ∃ x, rch g n b M0 t h x ∧ en M0 x n.toNat = i) (hI : SPI g n b M0 t h c σ0 σ)
    (hR : ∀ s x, x = c + 1 → Fr [26, 28] σ s → SPI g n b M0 t h x σ0 s → R x s) :
    wp_Search_placeOf t h c (fun r => (0 ≤ r ∧ r < 1568) ∧ ∀ s6 : MS, s6 = sI σ 28 r to → (0 ≤ (((t : Int) + 1) * 7) + to ∧ (((t : Int) + 1) * 7) + to < 203) ∧ (0 ≤ to ∧ to < 7) ∧
      wp_Search_joined y (gI s6 29 to) s6 (fun r4 => ∀ s7 : MS, s7 = sL s6 26 ((((t : Int) + 1) * 7) + to) ((gL s6 26 ((((t : Int) + 1) * 7) + to)) ||| r4) → ∀ x4 : Int, x4 = c + 1 → R x4 s7)) := by
  obtain ⟨i1, i2, i3, i4, i5⟩ := hI
  have hn := hG.1
  have htn : 0 ≤ to ∧ to < n := by rw [hto]; exact hG.2.2.2.2 t h c hh.1 hh.2
  unfold wp_Search_placeOf
  refine ⟨⟨by omega, by omega⟩, ⟨by omega, by omega⟩, ?_⟩
  intro s6 e6
  refine ⟨⟨by omega, by omega⟩, ⟨by omega, by omega⟩, ?_⟩
  have hF6 : Fr [28] σ s6 := by rw [e6]; exact Fr.I (by decide) _ _
  refine sp_joined hn hG.2.1 hG.2.2.2.1 (hU.fr hF6 (by decide)) htn (fun r4 hr4 => ?_)
  intro s7 e7 x4 e4
  have hF7 : Fr [26] s6 s7 := by rw [e7]; exact Fr.L (by decide) _ _
  have hF : Fr [26, 28] σ s7 := (hF6.mono (by decide)).tr (hF7.mono (by decide))
  have g6 : ∀ j, gL s6 26 j = gL σ 26 j := fun j => by rw [e6]; rfl
  have g28 : ∀ j, gI s7 28 j = gI s6 28 j := fun j => by rw [e7]; rfl
  refine hR s7 x4 e4 hF ⟨i1.tr (hF.mono (by decide)), fun a a1 a2 i => ?_, fun j hj => ?_, fun h0 c0 k0 hd hx => ?_, fun j hj => ?_⟩
  · have step : (∃ h0 x0 c0, rch g n b M0 t h0 x0 ∧ dn n h x4 h0 c0 ∧ a = g t h0 c0 ∧ en M0 (x0 ||| 2 ^ a.toNat) n.toNat = i) ↔ (∃ h0 x0 c0, rch g n b M0 t h0 x0 ∧ dn n h c h0 c0 ∧ a = g t h0 c0 ∧ en M0 (x0 ||| 2 ^ a.toNat) n.toNat = i) ∨ (a = to ∧ ∃ x0, rch g n b M0 t h x0 ∧ en M0 (x0 ||| 2 ^ a.toNat) n.toNat = i) := by
      constructor
      · rintro ⟨h0, x0, c0, q1, q2, q3, q4⟩
        by_cases e : h0 = h ∧ c0 = c
        · obtain ⟨e1, e2⟩ := e
          subst e1 e2
          exact Or.inr ⟨by rw [q3, hto], x0, q1, q4⟩
        · refine Or.inl ⟨h0, x0, c0, q1, ?_, q3, q4⟩
          unfold dn at q2 ⊢
          omega
      · rintro (⟨h0, x0, c0, q1, q2, q3, q4⟩ | ⟨q0, x0, q1, q4⟩)
        · refine ⟨h0, x0, c0, q1, ?_, q3, q4⟩
          unfold dn at q2 ⊢
          omega
        · refine ⟨h, x0, c, q1, ?_, by rw [q0, hto], q4⟩
          unfold dn
          omega
    rw [step, ← i2 a a1 a2 i]
    by_cases e : a = to
    · subst e
      rw [e7, gL_eq, inL_or, g6, hr4]
      have : (∃ s0, inL y s0 ∧ i = stp M0 a s0) ↔ (a = a ∧ ∃ x0, rch g n b M0 t h x0 ∧ en M0 (x0 ||| 2 ^ a.toNat) n.toNat = i) := by
        constructor
        · rintro ⟨s0, q1, q2⟩
          obtain ⟨x, q3, q4⟩ := (hy s0).1 q1
          exact ⟨rfl, x, q3, by rw [en_stp htn, q4, q2]⟩
        · rintro ⟨-, x, q3, q4⟩
          exact ⟨_, (hy _).2 ⟨x, q3, rfl⟩, by rw [← q4, en_stp htn]⟩
      rw [this]
    · rw [e7, gL_nj (by omega), g6]
      constructor
      · intro q; exact Or.inl q
      · rintro (q | q)
        · exact q
        · exact absurd q.1 e
  · rw [e7, gL_nj (by omega), g6]
    exact i3 j hj
  · rw [g28, e6]
    by_cases e : h0 = h ∧ c0 = c
    · rw [e.1, e.2, gI_eq, hto]
    · have hd' := hd
      unfold dn at hd'
      rw [gI_nj (by omega)]
      refine i4 h0 c0 k0 ?_ hx
      unfold dn
      omega
  · rw [g28, e6, gI_nj (by omega)]
    exact i5 j hj
theorem sp_spread {V : VT} {s : ST} {b : Int} {M0 t : Nat} {σ : MS} {Q : MS → Prop} (hN : NI σ V) (hG : GX (nx V s) (vN V) b M0) (ht : t < 28) (hU : NUM σ (vN V) M0) (hday : 0 ≤ tDay s ∧ tDay s ≤ 900000)
    (h60 : gI σ 60 1 = tDay s) (h62 : gI σ 62 3 = 0 ∧ gI σ 62 4 = tSick s ∧ shX (gL σ 62 6) = tShut s ∧ shOK (gL σ 62 6)) (hRH : RH σ (nx V s) (vN V) b M0 t) (hz : ∀ j : Int, ((t : Int) + 1) * 7 ≤ j → j < 203 → gL σ 26 j = 0)
    (h : ∀ σ', Fr spk σ σ' → NI σ' V → gR σ' 17 2 = gR σ 17 2 → (gI σ' 62 3 = 0 ∧ gI σ' 62 4 = tSick s ∧ shX (gL σ' 62 6) = tShut s ∧ shOK (gL σ' 62 6)) → RH σ' (nx V s) (vN V) b M0 (t + 1) → NX σ' (nx V s) (vN V) b M0 t →
      (∀ j : Int, (j < ((t : Int) + 1) * 7 ∨ ((t : Int) + 2) * 7 ≤ j) → gL σ' 26 j = gL σ 26 j) → (∀ j : Int, j < (t : Int) * 56 → gI σ' 28 j = gI σ 28 j) → Q σ') : wp_Search_spread t σ Q := by
  have hW := hN.2.2.1
  have hn := hG.1
  unfold wp_Search_spread
  rw [h60]
  refine ⟨⟨by omega, by omega⟩, ?_⟩
  intro s1 e1
  have hF1 : Fr [62] σ s1 := by rw [e1]; exact Fr.I (by decide) _ _
  have d1 : gI s1 62 1 = tDay s + t := by rw [e1, gI_eq]
  have d3 : gI s1 62 3 = 0 := by rw [e1, gI_nj (by decide)]; exact h62.1
  have d4 : gI s1 62 4 = tSick s := by rw [e1, gI_nj (by decide)]; exact h62.2.1
  have d6 : gL s1 62 6 = gL σ 62 6 := by rw [e1]; rfl
  refine ⟨(fun x z => 0 ≤ x ∧ x ≤ vN V ∧ NI z V ∧ gR z 17 2 = gR σ 17 2 ∧ (gI z 62 1 = tDay s + t ∧ gI z 62 3 = 0 ∧ gI z 62 4 = tSick s ∧ gL z 62 6 = gL σ 62 6) ∧ SPI (nx V s) (vN V) b M0 t x 0 σ z), (fun x _ => (vN V - x).toNat), ⟨by omega, by omega, hN.Fr hF1 (by decide), hF1.gR (by decide) 2, ⟨d1, d3, d4, d6⟩, hF1.mono (by decide), fun a a1 a2 i => ?_, fun j _ => hF1.gL (by decide) j, fun h0 c0 k0 hd hx => ?_, fun j _ => hF1.gI (by decide) j⟩, ?_⟩
  · rw [hF1.gL (by decide), hz _ (by omega) (by omega)]
    constructor
    · intro q; exact absurd q inL_0
    · rintro ⟨h0, x0, c0, q1, q2, -⟩
      have := (rch_in hG t q1).1
      unfold dn at q2
      omega
  · unfold dn at hd; omega
  rintro x1 s2 ⟨g0, g1, hN2, hR2, ⟨f1, f3, f4, f6⟩, hI⟩
  have hF2 := hI.1
  have hU2 : NUM s2 (vN V) M0 := hU.fr hF2 (by decide)
  rw [hU2.1]
  refine ⟨⟨by omega, by omega⟩, fun c => ?_, fun c => ⟨⟨by omega, by omega⟩, ?_⟩⟩
  · have hx : x1 = vN V := by omega
    subst hx
    obtain ⟨i1, i2, i3, i4, i5⟩ := hI
    refine h s2 hF2 hN2 hR2 ⟨f3, f4, by rw [f6]; exact h62.2.2.1, by rw [f6]; exact h62.2.2.2⟩ (fun a a1 a2 i => ?_) (fun a c' a1 a2 hx c1 c2 => ?_) i3 i5
    · rw [show (((t + 1 : Nat) : Int)) = (t : Int) + 1 by omega, i2 a a1 a2 i]
      constructor
      · rintro ⟨h0, x0, c0, q1, q2, q3, q4⟩
        unfold dn at q2
        exact ⟨_, ⟨h0, x0, c0, q1, q2.2, q3, rfl⟩, q4⟩
      · rintro ⟨x, ⟨h0, x0, c0, q1, q2, q3, rfl⟩, q4⟩
        have := (rch_in hG t q1).1
        exact ⟨h0, x0, c0, q1, by unfold dn; omega, q3, q4⟩
    · exact i4 a c' a1 (by unfold dn; omega) hx
  · intro y1 ey
    have eold : gL s2 26 ((t : Int) * 7 + x1) = gL σ 26 ((t : Int) * 7 + x1) := hI.2.2.1 _ (by omega)
    have hy : ∀ i, inL y1 i ↔ ∃ x, rch (nx V s) (vN V) b M0 t x1 x ∧ en M0 x (vN V).toNat = i := by
      intro i
      rw [ey, eold]
      exact hRH x1 g0 (by omega) i
    -- the home is done
    have nexth : ∀ z, SPI (nx V s) (vN V) b M0 t x1 (vN V + 1) σ z → ∀ x, x = x1 + 1 → SPI (nx V s) (vN V) b M0 t x 0 σ z := by
      rintro z ⟨i1, i2, i3, i4, i5⟩ x ex
      refine ⟨i1, fun a a1 a2 i => ?_, i3, fun h0 c0 k0 hd hx => i4 h0 c0 k0 (by unfold dn at hd ⊢; omega) hx, i5⟩
      rw [i2 a a1 a2 i]
      constructor
      · rintro ⟨h0, x0, c0, q1, q2, q3⟩
        exact ⟨h0, x0, c0, q1, by unfold dn at q2 ⊢; omega, q3⟩
      · rintro ⟨h0, x0, c0, q1, q2, q3⟩
        exact ⟨h0, x0, c0, q1, by unfold dn at q2 ⊢; omega, q3⟩
    refine ⟨fun hy0 => ?_, fun hy0 x8 e8 => ⟨⟨by omega, by omega, hN2, hR2, ⟨f1, f3, f4, f6⟩, nexth s2 ?_ x8 e8⟩, by dsimp only; omega⟩⟩
    rotate_left
    · obtain ⟨i1, i2, i3, i4, i5⟩ := hI
      have no : ∀ x, ¬ rch (nx V s) (vN V) b M0 t x1 x := fun x q => by
        have := (hy _).2 ⟨x, q, rfl⟩
        rw [hy0] at this
        exact inL_0 this
      refine ⟨i1, fun a a1 a2 i => ?_, i3, fun h0 c0 k0 hd hx => ?_, i5⟩
      · rw [i2 a a1 a2 i]
        constructor
        · rintro ⟨h0, x0, c0, q1, q2, q3⟩
          exact ⟨h0, x0, c0, q1, by unfold dn at q2 ⊢; omega, q3⟩
        · rintro ⟨h0, x0, c0, q1, q2, q3⟩
          refine ⟨h0, x0, c0, q1, ?_, q3⟩
          by_cases e : h0 = x1
          · rw [e] at q1; exact absurd q1 (no x0)
          · unfold dn at q2 ⊢; omega
      · refine i4 h0 c0 k0 ?_ hx
        by_cases e : h0 = x1
        · obtain ⟨x, hx⟩ := hx
          rw [e] at hx
          exact absurd hx (no x)
        · unfold dn at hd ⊢; omega
    · intro s3 e3
      have hF3 : Fr [62] s2 s3 := by rw [e3]; exact Fr.I (by decide) _ _
      have k1 : gI s3 62 1 = tDay s + t := by rw [e3, gI_nj (by decide)]; exact f1
      have k2 : gI s3 62 2 = x1 := by rw [e3, gI_eq]
      have k3 : gI s3 62 3 = 0 := by rw [e3, gI_nj (by decide)]; exact f3
      have k4 : gI s3 62 4 = tSick s := by rw [e3, gI_nj (by decide)]; exact f4
      have k6 : gL s3 62 6 = gL σ 62 6 := by rw [e3]; exact f6
      have hN3 := hN2.Fr hF3 (by decide)
      have etm : ∀ c, tm V (stC s3 62) c = tm V (chS s t x1 0) c := fun c => tm_cong (s' := stC s3 62) (s := chS s t x1 0) k1 k2 k3 k4 (by
        show shX (gL s3 62 6) = tShut s
        rw [k6]; exact h62.2.2.1) c
      refine sp_gather hN3 (by decide) (by rw [k1]; omega) (by rw [k2]; omega) (by rw [k6]; exact h62.2.2.2) (fun s4 hF4 hR4 hN4 ht4 hl4 _ => ?_)
      rw [who_cong etm] at hl4
      have ht4' : ∀ d, 0 ≤ d → d < vN V → gI s4 20 d = tv V (chS s t x1 0) d := fun d d0 d1 => by
        rw [ht4 d d0 d1]; unfold tv; rw [etm]
      have q62 : ∀ j, gI s4 62 j = gI s3 62 j := fun j => hF4.gI (by decide) j
      have hI4 : SPI (nx V s) (vN V) b M0 t x1 0 σ s4 := by
        obtain ⟨i1, i2, i3, i4, i5⟩ := hI
        have hF34 : Fr [17, 18, 19, 20, 62] s2 s4 := (hF3.mono (by decide)).tr (hF4.mono (by decide))
        refine ⟨i1.tr (hF34.mono (by decide)), fun a a1 a2 i => ?_, fun j hj => ?_, fun h0 c0 k0 hd hx => ?_, fun j hj => ?_⟩
        · rw [hF34.gL (by decide)]; exact i2 a a1 a2 i
        · rw [hF34.gL (by decide)]; exact i3 j hj
        · rw [hF34.gI (by decide)]; exact i4 h0 c0 k0 hd hx
        · rw [hF34.gI (by decide)]; exact i5 j hj
      refine ⟨(fun x z => 0 ≤ x ∧ x ≤ vN V + 1 ∧ Fr [26, 28] s4 z ∧ SPI (nx V s) (vN V) b M0 t x1 x σ z), (fun x _ => (vN V + 1 - x).toNat), ⟨by omega, by omega, Fr.rf, hI4⟩, ?_⟩
      rintro x2 s5 ⟨g2, g3, hF5, hI5⟩
      have hU5 : NUM s5 (vN V) M0 := hU.fr hI5.1 (by decide)
      rw [hU5.1]
      have l5 : gI s5 17 4 = who V (chS s t x1 0) 0 := by rw [hF5.gI (by decide)]; exact hl4
      have t5 : ∀ d, 0 ≤ d → d < vN V → gI s5 20 d = tv V (chS s t x1 0) d := fun d d0 d1 => by rw [hF5.gI (by decide)]; exact ht4' d d0 d1
      have fin : ∀ z x, x = x2 + 1 → Fr [26, 28] s5 z → SPI (nx V s) (vN V) b M0 t x1 x σ z → ¬ vN V < x2 → (0 ≤ x ∧ x ≤ vN V + 1 ∧ Fr [26, 28] s4 z ∧ SPI (nx V s) (vN V) b M0 t x1 x σ z) ∧ (vN V + 1 - x).toNat < (vN V + 1 - x2).toNat :=
        fun z x ex hF hI hlt => ⟨⟨by omega, by omega, hF5.tr hF, hI⟩, by omega⟩
      refine ⟨⟨by omega, by omega⟩, fun c5 x3 e3' => ?_, fun c5 => ⟨fun c6 => ⟨⟨by omega, by omega⟩, ?_⟩, fun c6 => ⟨fun c7 => ?_, fun c7 => ?_⟩⟩⟩
      · have hx : x2 = vN V + 1 := by omega
        subst hx
        have w62 : ∀ j, gI s5 62 j = gI s3 62 j := fun j => by rw [hF5.gI (by decide), q62]
        refine ⟨⟨by omega, by omega, hN4.Fr hF5 (by decide), ?_, ⟨by rw [w62]; exact k1, by rw [w62]; exact k3, by rw [w62]; exact k4, ?_⟩, nexth s5 hI5 x3 e3'⟩, by dsimp only; omega⟩
        · rw [hF5.gR (by decide), hR4, hF3.gR (by decide)]; exact hR2
        · rw [hF5.gL (by decide), hF4.gL (by decide)]; exact k6
      · have en' := nx_c V (s := s) (t := t) (h := x1) c6
        refine sp_latestHolding hW (chS_held0 s t x1) ⟨by omega, by omega⟩ t5 l5 ⟨fun c8 => ?_, fun c8 => ?_⟩
        · rw [if_neg c8] at en'
          exact sp_step (R := fun x z => _) hG ht hU5 ⟨g0, by omega⟩ ⟨g2, by omega⟩ en'.symm hy hI5 (fun z x ex hF hI => fin z x ex hF hI c5)
        · rw [if_pos c8] at en'
          exact sp_step (R := fun x z => _) hG ht hU5 ⟨g0, by omega⟩ ⟨g2, by omega⟩ en'.symm hy hI5 (fun z x ex hF hI => fin z x ex hF hI c5)
      · subst c6
        have en' := nx_0 V s t x1
        rw [← l5, if_neg c7] at en'
        exact sp_step (R := fun x z => _) hG ht hU5 ⟨g0, by omega⟩ ⟨by omega, by omega⟩ en'.symm hy hI5 (fun z x ex hF hI => fin z x ex hF hI c5)
      · subst c6
        have en' := nx_0 V s t x1
        rw [← l5, if_pos c7] at en'
        exact sp_step (R := fun x z => _) hG ht hU5 ⟨g0, by omega⟩ ⟨by omega, by omega⟩ en'.symm hy hI5 (fun z x ex hF hI => fin z x ex hF hI c5)
