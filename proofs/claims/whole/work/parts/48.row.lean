/-! ===== the sets from which all is had in time; the first row ===== -/
def HH (σ : MS) (g : Int → Int → Int → Int) (n b : Int) (M0 D t : Nat) : Prop := ∀ h, 0 ≤ h → h < n → (∃ x, rch g n b M0 t h x) → ∀ x, MX n M0 x → (inL (gL σ 27 ((t : Int) * 7 + h)) (en M0 x n.toNat) ↔ pth g n (D - t) t h (x : Int))
theorem HH.fr {σ σ' : MS} {g : Int → Int → Int → Int} {n b : Int} {M0 D t : Nat} (h : HH σ g n b M0 D t) (e : ∀ j : Int, (t : Int) * 7 ≤ j → j < (t : Int) * 7 + n → gL σ' 27 j = gL σ 27 j) : HH σ' g n b M0 D t := by
  intro a a1 a2
  rw [e _ (by omega) (by omega)]
  exact h a a1 a2
theorem inL_1 {s : Nat} : inL 1 s ↔ s = 0 := by
  constructor
  · intro h
    have hs := inL_lt h
    have key : ∀ s : Fin 64, ((1 : Int64)).toBitVec.getLsbD s.val = decide (s.val = 0) := by decide +kernel
    have q := key ⟨s, hs⟩
    unfold inL at h
    rw [q] at h
    exact of_decide_eq_true h
  · rintro rfl
    unfold inL
    decide
theorem sp_hopesFrom {σ : MS} {g : Int → Int → Int → Int} {n b h : Int} {M0 D t : Nat} {Q : Int64 → Prop} (hG : GX g n b M0) (hU : NUM σ n M0) (ht : t < D) (hD : D ≤ 28) (hh : 0 ≤ h ∧ h < n) (hR : RH σ g n b M0 t) (hX : NX σ g n b M0 t) (hH : HH σ g n b M0 D (t + 1))
    (hq : ∀ y, ((∃ x, rch g n b M0 t h x) → ∀ x, MX n M0 x → (inL y (en M0 x n.toNat) ↔ pth g n (D - t) t h (x : Int))) → Q y) : wp_Search_hopesFrom t h σ Q := by
  have hn := hG.1
  unfold wp_Search_hopesFrom
  refine ⟨⟨by omega, by omega⟩, fun c => ?_, fun c => hq 0 (fun ⟨x, hx⟩ => ?_)⟩
  rotate_left
  · have := (hR h hh.1 hh.2 _).2 ⟨x, hx, rfl⟩
    rw [c] at this
    exact absurd this inL_0
  have hr : ∃ x, rch g n b M0 t h x := by
    obtain ⟨s, hs⟩ := ne0_in.1 c
    obtain ⟨x, hx, -⟩ := (hR h hh.1 hh.2 s).1 hs
    exact ⟨x, hx⟩
  refine ⟨(fun y x => 0 ≤ x ∧ x ≤ n + 1 ∧ ∀ z, MX n M0 z → (inL y (en M0 z n.toNat) ↔ ∃ c, 0 ≤ c ∧ c < x ∧ pth g n (D - (t + 1)) ((t : Int) + 1) (g t h c) (ior (z : Int) (ishl 1 (g t h c))))), (fun _ x => (n + 1 - x).toNat), ⟨by omega, by omega, fun z hz => ⟨fun q => absurd q inL_0, fun ⟨c, c1, c2, _⟩ => by omega⟩⟩, ?_⟩
  rintro y1 x1 ⟨g0, g1, g2⟩
  rw [hU.1]
  refine ⟨⟨by omega, by omega⟩, fun c1 => hq y1 (fun _ z hz => ?_), fun c1 => ?_⟩
  · rw [g2 z hz, show D - t = (D - (t + 1)) + 1 by omega]
    constructor
    · rintro ⟨c, q1, q2, q3⟩; exact ⟨c, q1, by omega, q3⟩
    · rintro ⟨c, q1, q2, q3⟩; exact ⟨c, q1, by omega, q3⟩
  · have eto := hX h x1 hh.1 hh.2 hr g0 (by omega)
    have hto := hG.2.2.2.2 t h x1 hh.1 hh.2
    unfold wp_Search_placeOf
    dsimp only
    rw [eto]
    refine ⟨⟨by omega, by omega⟩, ⟨by omega, by omega⟩, ⟨by omega, by omega⟩, ⟨by omega, by omega⟩, ?_⟩
    refine sp_before hn hG.2.1 hG.2.2.2.1 hU hto (fun r2 hr2 => ?_)
    intro y2 e2 x2 ex2
    refine ⟨⟨by omega, by omega, fun z hz => ?_⟩, by omega⟩
    have hz2 := hz.put hto
    obtain ⟨x, hx⟩ := hr
    have hH' := hH (g t h x1) hto.1 hto.2 ⟨_, h, x, x1, hx, ⟨g0, by omega⟩, rfl, rfl⟩ _ hz2
    rw [e2, inL_or, g2 z hz, hr2 _ (en64 hn hG.2.1 hG.2.2.2.1), ← en_stp hto]
    rw [show (((t + 1 : Nat) : Int)) = (t : Int) + 1 by omega] at hH'
    rw [hH', ← ior_m hn hz.1 hto]
    constructor
    · rintro (⟨c, q1, q2, q3⟩ | q)
      · exact ⟨c, q1, by omega, q3⟩
      · exact ⟨x1, g0, by omega, q⟩
    · rintro ⟨c, q1, q2, q3⟩
      by_cases e : c = x1
      · subst e; exact Or.inr q3
      · exact Or.inl ⟨c, q1, by omega, q3⟩
theorem sp_findHopeful {σ : MS} {g : Int → Int → Int → Int} {n b : Int} {M0 D : Nat} {Q : MS → Prop} (hG : GX g n b M0) (hU : NUM σ n M0) (hD : D ≤ 28) (h9 : gI σ 25 9 = D) (hR : ∀ t, t ≤ D → RH σ g n b M0 t) (hX : ∀ t, t < D → NX σ g n b M0 t)
    (hq : ∀ σ', Fr [27] σ σ' → (∀ t, t ≤ D → HH σ' g n b M0 D t) → Q σ') : wp_Search_findHopeful σ Q := by
  have hn := hG.1
  have hk := nm6 hn hG.2.1 hG.2.2.2.1
  have hk2 : 2 ^ nm M0 n.toNat ≤ 2 ^ 6 := Nat.pow_le_pow_right (by decide) hk
  have hk3 : 1 ≤ 2 ^ nm M0 n.toNat := Nat.one_le_two_pow
  unfold wp_Search_findHopeful
  refine ⟨(fun x s => 0 ≤ x ∧ x ≤ n ∧ Fr [27] σ s ∧ ∀ h, 0 ≤ h → h < x → gL s 27 ((D : Int) * 7 + h) = lshl 1 (gI σ 25 7)), (fun x _ => (n - x).toNat), ⟨by omega, by omega, Fr.rf, fun h h1 h2 => by omega⟩, ?_⟩
  rintro x1 s1 ⟨g0, g1, hF1, hv1⟩
  have hU1 := hU.fr hF1 (by decide)
  rw [hU1.1, hF1.gI (by decide), h9]
  refine ⟨⟨by omega, by omega⟩, fun c1 => ?_, fun c1 => ⟨⟨by omega, by omega⟩, ?_⟩⟩
  · have hHD : HH s1 g n b M0 D D := by
      intro h h1 h2 _ x hx
      rw [hv1 h h1 (by omega), hU.2.1, inL_shl (by omega) (by omega) (en64 hn hG.2.1 hG.2.2.2.1), inL_1, Int.toNat_natCast, Nat.sub_self]
      have := (full_iff hn hx)
      show _ ↔ (x : Int) = ishl 1 n - 1
      rw [this]
      omega
    intro x2 e2
    refine ⟨(fun x s => -1 ≤ x ∧ x < D ∧ Fr [27] σ s ∧ ∀ t : Nat, x < t → t ≤ D → HH s g n b M0 D t), (fun x _ => (x + 1).toNat), ⟨by omega, by omega, hF1, fun t t1 t2 => by rw [show t = D by omega]; exact hHD⟩, ?_⟩
    rintro x3 s2 ⟨g2, g3, hF2, hH2⟩
    refine ⟨⟨by omega, by omega⟩, fun c3 => hq s2 hF2 (fun t t1 => hH2 t (by omega) t1), fun c3 => ?_⟩
    obtain ⟨t, rfl⟩ := Int.eq_ofNat_of_zero_le (show 0 ≤ x3 by omega)
    have hN : HH s2 g n b M0 D (t + 1) := hH2 (t + 1) (by omega) (by omega)
    refine ⟨(fun x s => 0 ≤ x ∧ x ≤ n ∧ Fr [27] σ s ∧ (∀ t' : Nat, t < t' → t' ≤ D → HH s g n b M0 D t') ∧ ∀ h, 0 ≤ h → h < x → (∃ x, rch g n b M0 t h x) → ∀ x, MX n M0 x → (inL (gL s 27 ((t : Int) * 7 + h)) (en M0 x n.toNat) ↔ pth g n (D - t) t h (x : Int))), (fun x _ => (n - x).toNat), ⟨by omega, by omega, hF2, fun t' t1 t2 => hH2 t' (by omega) t2, fun h h1 h2 => by omega⟩, ?_⟩
    rintro x4 s3 ⟨g4, g5, hF3, hH3, hv3⟩
    have hU3 := hU.fr hF3 (by decide)
    rw [hU3.1]
    refine ⟨⟨by omega, by omega⟩, fun c4 x5 e5 => ⟨⟨by omega, by omega, hF3, fun t' t1 t2 => ?_⟩, by dsimp only; omega⟩, fun c4 => ?_⟩
    · by_cases e : t' = t
      · subst e
        intro h h1 h2
        exact hv3 h h1 (by omega)
      · exact hH3 t' (by omega) t2
    · have hR3 : RH s3 g n b M0 t := fun h h1 h2 s => by rw [hF3.gL (by decide)]; exact hR t (by omega) h h1 h2 s
      have hX3 : NX s3 g n b M0 t := fun h c h1 h2 h3 h4 h5 => by rw [hF3.gI (by decide)]; exact hX t (by omega) h c h1 h2 h3 h4 h5
      refine sp_hopesFrom hG hU3 (by omega) hD ⟨g4, by omega⟩ hR3 hX3 (hH3 (t + 1) (by omega) (by omega)) (fun r1 hr1 => ⟨⟨by omega, by omega⟩, ?_⟩)
      intro s4 e4 x6 e6
      refine ⟨⟨by omega, by omega, by rw [e4]; exact hF3.tr (Fr.L (by decide) _ _), fun t' t1 t2 => ?_, fun h h1 h2 => ?_⟩, by dsimp only; omega⟩
      · refine (hH3 t' t1 t2).fr (fun j j1 j2 => ?_)
        rw [e4, gL_nj (by omega)]
      · by_cases e : h = x4
        · subst e
          rw [e4, gL_eq]
          exact hr1
        · rw [e4, gL_nj (by omega)]
          exact hv3 h h1 (by omega)
  · intro s5 e5 x7 e7
    refine ⟨⟨by omega, by omega, by rw [e5]; exact hF1.tr (Fr.L (by decide) _ _), fun h h1 h2 => ?_⟩, by dsimp only; omega⟩
    by_cases e : h = x1
    · subst e
      rw [e5, gL_eq, hF1.gI (by decide)]
    · rw [e5, gL_nj (by omega)]
      exact hv1 h h1 (by omega)
theorem sp_firstHopeful {σ : MS} {g : Int → Int → Int → Int} {n b h : Int} {M0 D t x : Nat} {y : Int64} {Q : Int → Prop} (hG : GX g n b M0) (hU : NUM σ n M0) (ht : t < D) (hD : D ≤ 28) (hX : NX σ g n b M0 t) (hH : HH σ g n b M0 D (t + 1))
    (hr : rch g n b M0 t h x) (hy : ∀ s, inL y s ↔ s = en M0 x n.toNat) (hp : pth g n (D - t) t h (x : Int)) (hq : ∀ c, IsC g n (D - t - 1) t h (x : Int) c → Q c) : wp_Search_firstHopeful t h y σ Q := by
  have hn := hG.1
  have hin := rch_in hG t hr
  have hh := hin.1
  unfold wp_Search_firstHopeful
  refine ⟨(fun c => 0 ≤ c ∧ c ≤ n ∧ ∀ c', 0 ≤ c' → c' < c → ¬ pth g n (D - t - 1) ((t : Int) + 1) (g t h c') (ior (x : Int) (ishl 1 (g t h c')))), (fun c => (n - c).toNat), ⟨by omega, by omega, fun c c1 c2 => by omega⟩, ?_⟩
  rintro x1 ⟨g0, g1, g2⟩
  rw [hU.1]
  refine ⟨⟨by omega, by omega⟩, fun c1 => hq n ?_, fun c1 => ?_⟩
  · rw [show D - t = (D - t - 1) + 1 by omega] at hp
    obtain ⟨c, c2, c3, c4⟩ := hp
    have e : c = n := by
      by_cases z : c < n
      · exact absurd c4 (g2 c c2 (by omega))
      · omega
    subst e
    exact ⟨by omega, by omega, c4, fun c' h1 h2 => g2 c' h1 (by omega)⟩
  · have eto := hX h x1 hh.1 hh.2 ⟨x, hr⟩ g0 (by omega)
    have hto := hG.2.2.2.2 t h x1 hh.1 hh.2
    unfold wp_Search_placeOf
    dsimp only
    rw [eto]
    refine ⟨⟨by omega, by omega⟩, ⟨by omega, by omega⟩, ⟨by omega, by omega⟩, ?_⟩
    refine sp_joined hn hG.2.1 hG.2.2.2.1 hU hto (fun r2 hr2 => ⟨⟨by omega, by omega⟩, ?_⟩)
    have hz2 := hin.2.put hto
    have hH' := hH (g t h x1) hto.1 hto.2 ⟨_, h, x, x1, hr, ⟨g0, by omega⟩, rfl, rfl⟩ _ hz2
    rw [show (((t + 1 : Nat) : Int)) = (t : Int) + 1 by omega, show D - (t + 1) = D - t - 1 by omega, ← ior_m hn hin.2.1 hto] at hH'
    have key : (¬ (r2 &&& gL σ 27 (((t : Int) + 1) * 7 + g t h x1)) = 0) ↔ pth g n (D - t - 1) ((t : Int) + 1) (g t h x1) (ior (x : Int) (ishl 1 (g t h x1))) := by
      rw [← hH', ne0_in]
      constructor
      · rintro ⟨s, hs⟩
        rw [inL_and, hr2] at hs
        obtain ⟨⟨s0, q1, q2⟩, q3⟩ := hs
        rw [hy] at q1
        rw [en_stp hto, ← q1, ← q2]
        exact q3
      · intro q
        refine ⟨en M0 (x ||| 2 ^ (g t h x1).toNat) n.toNat, ?_⟩
        rw [inL_and, hr2]
        exact ⟨⟨_, (hy _).2 rfl, en_stp hto⟩, q⟩
    refine ⟨fun q x2 e2 => ⟨⟨by omega, by omega, fun c' h1 h2 => ?_⟩, by omega⟩, fun q => hq x1 ⟨g0, by omega, key.1 q, fun c' h1 h2 => g2 c' h1 h2⟩⟩
    by_cases e : c' = x1
    · subst e
      exact fun z => (key.2 z) q
    · exact g2 c' h1 (by omega)
theorem sp_findRow {σ : MS} {g : Int → Int → Int → Int} {n b : Int} {M0 D : Nat} {Q : MS → Prop} (hG : GX g n b M0) (hU : NUM σ n M0) (hD : D ≤ 28) (h9 : gI σ 25 9 = D) (hb : gI σ 60 2 = b) (hX : ∀ t, t < D → NX σ g n b M0 t) (hH : ∀ t, t ≤ D → HH σ g n b M0 D t) (hp : pth g n D 0 b (M0 : Int)) (hen : en M0 M0 n.toNat = 0)
    (hq : ∀ σ', Fr [30] σ σ' → (∀ t : Int, 0 ≤ t → t < D → ∃ c, IsRow g n b (M0 : Int) D t.toNat c ∧ gI σ' 30 t = rowV c) → Q σ') : wp_Search_findRow σ Q := by
  have hn := hG.1
  unfold wp_Search_findRow
  rw [hb]
  refine ⟨(fun h y x s => 0 ≤ x ∧ x ≤ D ∧ Fr [30] σ s ∧ (∃ z, rch g n b M0 x.toNat h z ∧ trc g n b (M0 : Int) D x.toNat h (z : Int) ∧ pth g n (D - x.toNat) x h (z : Int) ∧ ∀ i, inL y i ↔ i = en M0 z n.toNat) ∧ ∀ t : Int, 0 ≤ t → t < x → ∃ c, IsRow g n b (M0 : Int) D t.toNat c ∧ gI s 30 t = rowV c), (fun _ _ x _ => (D - x).toNat), ⟨by omega, by omega, Fr.rf, ⟨M0, ⟨rfl, rfl⟩, ⟨rfl, rfl⟩, hp, fun i => by rw [hen]; exact inL_1⟩, fun t t1 t2 => by omega⟩, ?_⟩
  rintro h y1 x2 s1 ⟨g0, g1, hF, ⟨z, hz1, hz2, hz3, hz4⟩, hv⟩
  obtain ⟨t, rfl⟩ := Int.eq_ofNat_of_zero_le g0
  rw [Int.toNat_natCast] at hz1 hz2 hz3
  have hU1 := hU.fr hF (by decide)
  have hin := rch_in hG t hz1
  rw [hF.gI (by decide), h9]
  refine ⟨⟨by omega, by omega⟩, fun c => hq s1 hF (fun t' t1 t2 => hv t' t1 (by omega)), fun c => ⟨⟨by omega, by omega⟩, ?_⟩⟩
  have hX1 : NX s1 g n b M0 t := fun h c h1 h2 h3 h4 h5 => by rw [hF.gI (by decide)]; exact hX t (by omega) h c h1 h2 h3 h4 h5
  have hH1 : HH s1 g n b M0 D (t + 1) := (hH (t + 1) (by omega)).fr (fun j _ _ => hF.gL (by decide) j)
  refine sp_firstHopeful hG hU1 (by omega) hD hX1 hH1 hz1 hz4 hz3 (fun r1 hr1 => ?_)
  have hto := hG.2.2.2.2 t h r1 hin.1.1 hin.1.2
  have r12 := hr1.1
  have r13 := hr1.2.1
  have hrow : IsRow g n b (M0 : Int) D t r1 := ⟨h, (z : Int), hz2, hr1⟩
  -- the next day
  have step : ∀ (s : MS) (v : Int), s = sI s1 30 t v → v = rowV r1 → wp_Search_placeOf t h r1 (fun (r2 : Int) =>
     (0 ≤ r2 ∧ r2 < 1568) ∧
      (0 ≤ (gI s 28 r2) ∧ (gI s 28 r2) < 7) ∧
      wp_Search_joined y1 (gI s 29 (gI s 28 r2)) s (fun (r3 : Int64) =>
      ∀ x3 : Int, x3 = (t : Int) + 1 → ((0 ≤ x3 ∧ x3 ≤ D ∧ Fr [30] σ s ∧ (∃ z', rch g n b M0 x3.toNat (gI s 28 r2) z' ∧ trc g n b (M0 : Int) D x3.toNat (gI s 28 r2) (z' : Int) ∧ pth g n (D - x3.toNat) x3 (gI s 28 r2) (z' : Int) ∧ ∀ i, inL r3 i ↔ i = en M0 z' n.toNat) ∧ ∀ t' : Int, 0 ≤ t' → t' < x3 → ∃ c, IsRow g n b (M0 : Int) D t'.toNat c ∧ gI s 30 t' = rowV c) ∧ ((D : Int) - x3).toNat < ((D : Int) - t).toNat))) := by
    intro s v es ev
    have hFs : Fr [30] s1 s := by rw [es]; exact Fr.I (by decide) _ _
    have eto := hX1 h r1 hin.1.1 hin.1.2 ⟨z, hz1⟩ r12 r13
    unfold wp_Search_placeOf
    dsimp only
    rw [hFs.gI (k := 28) (by decide), eto]
    refine ⟨⟨by omega, by omega⟩, ⟨by omega, by omega⟩, ⟨by omega, by omega⟩, ?_⟩
    refine sp_joined hn hG.2.1 hG.2.2.2.1 (hU1.fr hFs (by decide)) hto (fun r3 hr3 => ?_)
    intro x3 e3
    have et : x3.toNat = t + 1 := by omega
    refine ⟨⟨by omega, by omega, hF.tr hFs, ⟨z ||| 2 ^ (g t h r1).toNat, ?_, ?_, ?_, fun i => ?_⟩, fun t' t1 t2 => ?_⟩, by omega⟩
    · rw [et]; exact ⟨h, z, r1, hz1, ⟨r12, r13⟩, rfl, rfl⟩
    · rw [et, ← ior_m hn hin.2.1 hto]; exact ⟨h, (z : Int), r1, hz2, hr1, rfl, rfl⟩
    · rw [et, ← ior_m hn hin.2.1 hto, e3, show D - (t + 1) = D - t - 1 by omega]
      exact hr1.2.2.1
    · rw [hr3, en_stp hto]
      constructor
      · rintro ⟨s0, q1, q2⟩
        rw [hz4] at q1
        rw [q2, q1]
      · intro q
        exact ⟨_, (hz4 _).2 rfl, q⟩
    · by_cases e : t' = (t : Int)
      · subst e
        exact ⟨r1, by rw [Int.toNat_natCast]; exact hrow, by rw [es, gI_eq, ev]⟩
      · rw [es, gI_nj e]
        exact hv t' t1 (by omega)
  refine ⟨fun c1 => ⟨⟨by omega, by omega⟩, ⟨by omega, by omega⟩, fun s2 e2 => step s2 _ e2 (by unfold rowV; rw [if_neg c1])⟩, fun c1 => ⟨⟨by omega, by omega⟩, fun s3 e3 => step s3 _ e3 (by unfold rowV; rw [if_pos c1])⟩⟩
