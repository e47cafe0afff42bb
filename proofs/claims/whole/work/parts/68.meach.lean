/-! ===== the model's each, to the end ===== -/
theorem sp_layYet {σ : MS} {A : AT} {B : Int} {Q : MS → Prop} (hC : MI σ A) (hW : WF B A) (hB : 0 ≤ B ∧ B ≤ 800000)
    (h : ∀ σ', MI σ' A → NT σ' (nx (aV A) (aS A)) (vN (aV A)) → (∀ t : Nat, t ≤ 28 → YT σ' (nx (aV A) (aS A)) (vN (aV A)) t) → Q σ') : wp_M_layYet σ Q := by
  have hn := hW.n
  have e7 := all7 hn
  have hg : ∀ t h c, 0 ≤ h → h < vN (aV A) → 0 ≤ nx (aV A) (aS A) t h c ∧ nx (aV A) (aS A) t h c < vN (aV A) := fun t h c h0 h1 => nx_in hW.1 _ t h c h0 h1
  unfold wp_M_layYet
  rw [hC.n]
  intro x1 ex1
  refine sp_layNexts hC hW hB (fun s1 hC1 hT1 => ?_)
  generalize nx (aV A) (aS A) = g at *
  generalize hnn : vN (aV A) = n at *
  refine ⟨(fun x s => -1 ≤ x ∧ x ≤ 28 ∧ Fr [18] s1 s ∧ ∀ t : Nat, x < t → t ≤ 28 → YT s g n t), (fun x _ => (x + 1).toNat), ⟨by omega, by omega, Fr.rf, fun t t1 t2 => by omega⟩, ?_⟩
  rintro x2 s2 ⟨g0, g1, hF2, hY2⟩
  have tt : ∀ s, Fr [18] s1 s → MI s A ∧ NT s g n := fun s hF => ⟨hC1.fr hF (by decide), fun t h c a1 a2 a3 a4 a5 a6 => by rw [hF.gI (by decide)]; exact hT1 t h c a1 a2 a3 a4 a5 a6⟩
  refine ⟨⟨by omega, by omega⟩, fun c => h s2 (tt s2 hF2).1 (tt s2 hF2).2 (fun t t1 => hY2 t (by omega) t1), fun c => ?_⟩
  obtain ⟨t, rfl⟩ := Int.eq_ofNat_of_zero_le (show 0 ≤ x2 by omega)
  -- rows of day t of homes below x, and of that home of sets below y
  let R : MS → Int → Int → Prop := fun s x y => ∀ h m, 0 ≤ h → h < n → 0 ≤ m → m ≤ ishl 1 n - 1 → (h < x ∨ h = x ∧ m < y) → IsY g n t h m (gI s 18 (896 * t + 128 * h + m))
  refine ⟨(fun x s => 0 ≤ x ∧ x ≤ n ∧ Fr [18] s1 s ∧ (∀ t' : Nat, t < t' → t' ≤ 28 → YT s g n t') ∧ R s x 0), (fun x _ => (n - x).toNat), ⟨by omega, by omega, hF2, fun t' a b => hY2 t' (by omega) b, fun h m a1 a2 a3 a4 a5 => by omega⟩, ?_⟩
  rintro x3 s3 ⟨g2, g3, hF3, hY3, hR3⟩
  have n3 : gI s3 0 12 = n := by rw [(tt s3 hF3).1.n]; exact hnn
  rw [n3]
  refine ⟨⟨by omega, by omega⟩, fun c3 x4 e4 => ⟨⟨by omega, by omega, hF3, fun t' a b => ?_⟩, by dsimp only; omega⟩, fun c3 => ?_⟩
  · by_cases e : t' = t
    · subst e
      intro h m a1 a2 a3 a4
      exact hR3 h m a1 a2 a3 a4 (by omega)
    · exact hY3 t' (by omega) b
  refine ⟨(fun y s => 0 ≤ y ∧ y ≤ x1 + 1 ∧ Fr [18] s1 s ∧ (∀ t' : Nat, t < t' → t' ≤ 28 → YT s g n t') ∧ R s x3 y), (fun y _ => (x1 + 1 - y).toNat), ⟨by omega, by omega, hF3, hY3, hR3⟩, ?_⟩
  rintro x5 s4 ⟨g4, g5, hF4, hY4, hR4⟩
  have hT4 := (tt s4 hF4).2
  have n4 : gI s4 0 12 = n := by rw [(tt s4 hF4).1.n]; exact hnn
  rw [n4]
  refine ⟨⟨by omega, by omega⟩, ⟨by omega, by omega⟩, fun c5 x6 e6 => ⟨⟨by omega, by omega, hF4, hY4, fun h m a1 a2 a3 a4 a5 => hR4 h m a1 a2 a3 a4 (by omega)⟩, by dsimp only; omega⟩, fun c5 => ?_⟩
  have hm : 0 ≤ x5 ∧ x5 ≤ ishl 1 n - 1 := by omega
  have hh : 0 ≤ x3 ∧ x3 < n := by omega
  -- the entry is written
  have wr : ∀ v, IsY g n t x3 x5 v → wp_M_yetAt t x3 x5 (fun (r2 : Int) => (0 ≤ r2 ∧ r2 < 25984) ∧ Rng v ∧ ∀ s5 : MS, s5 = sI s4 18 r2 v → ∀ x9 : Int, x9 = x5 + 1 →
      ((0 ≤ x9 ∧ x9 ≤ x1 + 1 ∧ Fr [18] s1 s5 ∧ (∀ t' : Nat, t < t' → t' ≤ 28 → YT s5 g n t') ∧ R s5 x3 x9) ∧ (x1 + 1 - x9).toNat < (x1 + 1 - x5).toNat)) := by
    intro v hv
    have hin := hv.in
    unfold wp_M_yetAt
    refine ⟨⟨by omega, by omega⟩, ⟨by omega, by omega⟩, ⟨by omega, by omega⟩, ?_⟩
    intro s5 e5 x9 e9
    refine ⟨⟨by omega, by omega, by rw [e5]; exact hF4.tr (Fr.I (by decide) _ _), fun t' a b h m a1 a2 a3 a4 => ?_, fun h m a1 a2 a3 a4 a5 => ?_⟩, by omega⟩
    · rw [e5, gI_nj (by omega)]; exact hY4 t' a b h m a1 a2 a3 a4
    · by_cases e : h = x3 ∧ m = x5
      · rw [e.1, e.2, e5, gI_eq]; exact hv
      · rw [e5, gI_nj (by omega)]; exact hR4 h m a1 a2 a3 a4 (by omega)
  refine ⟨fun c6 => ?_, fun c6 => ?_⟩
  · -- the least over the choices
    let PT : Int → Nat → Prop := fun x k => ∃ c, 0 ≤ c ∧ c < x ∧ c ≤ n ∧ pth g n k ((t : Int) + 1) (g t x3 c) (ior x5 (ishl 1 (g t x3 c)))
    have pT : ∀ k : Nat, PT (n + 1) k ↔ pth g n (k + 1) t x3 x5 := by
      intro k
      constructor
      · rintro ⟨c, a1, a2, a3, a4⟩; exact ⟨c, a1, a3, a4⟩
      · rintro ⟨c, a1, a3, a4⟩; exact ⟨c, a1, by omega, a3, a4⟩
    have p0 : ¬ pth g n 0 t x3 x5 := fun z => c6 (by rw [ex1]; exact z)
    refine ⟨(fun y x => 0 ≤ x ∧ x ≤ n + 1 ∧ (0 ≤ y ∧ y ≤ 1000000) ∧ (28 ≤ (t : Int) → x = 0) ∧ ((y = 1000000 ∧ ∀ k : Nat, k + 1 ≤ 28 - t → ¬ PT x k) ∨ ∃ k : Nat, k + 1 ≤ 28 - t ∧ y = k + 1 ∧ PT x k ∧ ∀ j : Nat, j < k → ¬ PT x j)), (fun _ x => (n + 1 - x).toNat), ⟨by omega, by omega, by omega, fun _ => rfl, Or.inl ⟨rfl, fun k _ => fun ⟨c, a1, a2, _⟩ => by omega⟩⟩, ?_⟩
    rintro y x ⟨j0, j1, jy, j28, jv⟩
    -- what it comes to at the end
    have done : (x = n + 1 ∨ 28 ≤ (t : Int)) → IsY g n t x3 x5 y := by
      intro hx
      rcases jv with ⟨e, hno⟩ | ⟨k, k1, e, k2, k3⟩
      · refine Or.inl ⟨e, fun k hk => ?_⟩
        cases k with
        | zero => exact p0
        | succ k =>
          rcases hx with hx | hx
          · rw [hx] at hno
            exact fun z => hno k hk ((pT k).2 z)
          · omega
      · rcases hx with hx | hx
        · rw [hx] at k2 k3
          refine Or.inr ⟨k + 1, k1, by omega, (pT k).1 k2, fun j hj => ?_⟩
          cases j with
          | zero => exact p0
          | succ j => exact fun z => k3 j (by omega) ((pT j).2 z)
        · omega
    refine ⟨⟨by omega, by omega⟩, fun c7 => wr y (done (Or.inl (by omega))), fun c7 => ⟨fun c8 => wr y (done (Or.inr c8)), fun c8 => ?_⟩⟩
    have ht : t < 28 := by omega
    refine sp_byChoice hn hg hT4 ht (hY4 (t + 1) (by omega) (by omega)) hh hm ⟨j0, by omega⟩ (fun v hv => ?_)
    have hin := hv.in
    have PTs : ∀ k : Nat, PT (x + 1) k ↔ PT x k ∨ pth g n k ((t : Int) + 1) (g t x3 x) (ior x5 (ishl 1 (g t x3 x))) := by
      intro k
      constructor
      · rintro ⟨c, a1, a2, a3, a4⟩
        by_cases e : c = x
        · rw [e] at a4; exact Or.inr a4
        · exact Or.inl ⟨c, a1, by omega, a3, a4⟩
      · rintro (⟨c, a1, a2, a3, a4⟩ | a4)
        · exact ⟨c, a1, by omega, a3, a4⟩
        · exact ⟨x, j0, by omega, by omega, a4⟩
    have hv' : (v = 1000000 ∧ ∀ k : Nat, k ≤ 28 - (t + 1) → ¬ pth g n k ((t : Int) + 1) (g t x3 x) (ior x5 (ishl 1 (g t x3 x)))) ∨ ∃ k : Nat, k ≤ 28 - (t + 1) ∧ v = k ∧ pth g n k ((t : Int) + 1) (g t x3 x) (ior x5 (ishl 1 (g t x3 x))) ∧ ∀ j : Nat, j < k → ¬ pth g n j ((t : Int) + 1) (g t x3 x) (ior x5 (ishl 1 (g t x3 x))) := by
      have hv := hv
      unfold IsY at hv
      rw [show (((t + 1 : Nat) : Int)) = (t : Int) + 1 by omega] at hv
      exact hv
    have step : ∀ y' x', x' = x + 1 → y' = min y (1 + v) → ((0 ≤ x' ∧ x' ≤ n + 1 ∧ (0 ≤ y' ∧ y' ≤ 1000000) ∧ (28 ≤ (t : Int) → x' = 0) ∧ ((y' = 1000000 ∧ ∀ k : Nat, k + 1 ≤ 28 - t → ¬ PT x' k) ∨ ∃ k : Nat, k + 1 ≤ 28 - t ∧ y' = k + 1 ∧ PT x' k ∧ ∀ j : Nat, j < k → ¬ PT x' j)) ∧ (n + 1 - x').toNat < (n + 1 - x).toNat) := by
      intro y' x' ex ey
      subst ex
      refine ⟨⟨by omega, by omega, by omega, fun z => by omega, ?_⟩, by omega⟩
      rcases hv' with ⟨ev, hno⟩ | ⟨k, k1, ev, k2, k3⟩ <;> rcases jv with ⟨e, hno2⟩ | ⟨i, i1, e, i2, i3⟩
      · refine Or.inl ⟨by omega, fun k hk z => ?_⟩
        rcases (PTs k).1 z with w | w
        · exact hno2 k hk w
        · exact hno k (by omega) w
      · refine Or.inr ⟨i, i1, by omega, (PTs i).2 (Or.inl i2), fun j hj z => ?_⟩
        rcases (PTs j).1 z with w | w
        · exact i3 j hj w
        · exact hno j (by omega) w
      · refine Or.inr ⟨k, by omega, by omega, (PTs k).2 (Or.inr k2), fun j hj z => ?_⟩
        rcases (PTs j).1 z with w | w
        · exact hno2 j (by omega) w
        · exact k3 j hj w
      · by_cases q : i ≤ k
        · refine Or.inr ⟨i, i1, by omega, (PTs i).2 (Or.inl i2), fun j hj z => ?_⟩
          rcases (PTs j).1 z with w | w
          · exact i3 j hj w
          · exact k3 j (by omega) w
        · refine Or.inr ⟨k, by omega, by omega, (PTs k).2 (Or.inr k2), fun j hj z => ?_⟩
          rcases (PTs j).1 z with w | w
          · exact i3 j (by omega) w
          · exact k3 j hj w
    exact ⟨⟨by omega, by omega⟩, fun c9 x11 e11 => step y x11 e11 (by omega), fun c9 x12 e12 => step (1 + v) x12 e12 (by omega)⟩
  · have hz : IsY g n t x3 x5 0 := Or.inr ⟨0, by omega, rfl, by show x5 = ishl 1 n - 1; omega, fun j hj => by omega⟩
    refine ⟨(fun y x => y = 0 ∧ 0 ≤ x ∧ x ≤ n + 1), (fun _ x => (n + 1 - x).toNat), ⟨rfl, by omega, by omega⟩, ?_⟩
    rintro y x ⟨rfl, j0, j1⟩
    exact ⟨⟨by omega, by omega⟩, fun c7 => wr 0 hz, fun c7 => ⟨fun c8 => wr 0 hz, fun c8 => wr 0 hz⟩⟩
theorem sp_M_each {σ : MS} {A : AT} {B k : Int} {Q : Int → MS → Prop} (hC : MI σ A) (hW : WF B A) (hB : 0 ≤ B ∧ B ≤ 800000) (h : ∀ σ' r, MI σ' A → rEach A k r → Q r σ') : wp_M_each k σ Q := by
  have hn := hW.n
  have e7 := all7 hn
  have hg : ∀ t h c, 0 ≤ h → h < vN (aV A) → 0 ≤ nx (aV A) (aS A) t h c ∧ nx (aV A) (aS A) t h c < vN (aV A) := fun t h c h0 h1 => nx_in hW.1 _ t h c h0 h1
  obtain ⟨t1, t2, t3, t4, t5, t6, t7, t8, t9⟩ := hW.2.1
  unfold wp_M_each
  refine sp_Min (fun c => ⟨fun _ => ?_, fun q => absurd q (by decide)⟩) (fun c => ⟨fun q => absurd rfl q, fun _ => h σ _ hC (Or.inl ⟨c, rfl⟩)⟩)
  refine sp_layYet hC hW hB (fun s1 hC1 hT1 hY1 => ?_)
  rw [hC1.s.2.1, hC1.s.2.2.2.2.1]
  unfold rEach at h
  generalize nx (aV A) (aS A) = g at *
  generalize vN (aV A) = n at *
  generalize tBell (aS A) = b at *
  generalize tHad (aS A) = m at *
  have y0 : IsY g n 0 b m (gI s1 18 (896 * ((0 : Nat) : Int) + 128 * b + m)) := hY1 0 (by omega) b m t3 t4 t8 (by omega)
  rw [show (896 * ((0 : Nat) : Int) + 128 * b + m) = 896 * 0 + 128 * b + m by omega] at y0
  have hin := y0.in
  unfold wp_M_yetAt
  refine ⟨⟨by omega, by omega⟩, ⟨by omega, by omega⟩, fun c2 => ?_, fun c2 => ?_⟩
  · rcases y0 with ⟨e, hno⟩ | ⟨j, j1, e, -⟩
    · exact h s1 _ hC1 (Or.inr ⟨c, -4, Or.inl ⟨rfl, fun k hk => hno k hk⟩, Or.inl ⟨rfl, rfl⟩⟩)
    · omega
  · obtain ⟨D, D1, eD, D2, D3⟩ : ∃ k : Nat, k ≤ 28 ∧ gI s1 18 (896 * 0 + 128 * b + m) = k ∧ pth g n k 0 b m ∧ ∀ j : Nat, j < k → ¬ pth g n j 0 b m := by
      rcases y0 with ⟨e, hno⟩ | ⟨j, j1, e, j2, j3⟩
      · omega
      · exact ⟨j, j1, e, j2, j3⟩
    have hD : IsD g n b m (D : Int) := Or.inr ⟨D, D1, rfl, D2, D3⟩
    rw [eD]
    refine ⟨fun c3 => ⟨fun c4 => ?_, fun c4 => h s1 _ hC1 (Or.inr ⟨c, D, hD, Or.inr ⟨by omega, Or.inl ⟨c4, rfl⟩⟩⟩)⟩, fun c3 => h s1 _ hC1 (Or.inr ⟨c, D, hD, Or.inr ⟨by omega, Or.inr (Or.inl ⟨by omega, by omega, rfl⟩)⟩⟩)⟩
    -- the trace
    refine ⟨(fun hm mm ch t => 0 ≤ t ∧ t ≤ k ∧ (0 ≤ hm ∧ hm < n) ∧ (0 ≤ mm ∧ mm ≤ ishl 1 n - 1) ∧ (0 ≤ ch ∧ ch ≤ n) ∧ trc g n b m D t.toNat hm mm ∧ (pth g n (D - t.toNat) t hm mm ∧ ∀ j : Nat, j < D - t.toNat → ¬ pth g n j t hm mm) ∧ (1 ≤ t → IsRow g n b m D (t.toNat - 1) ch)), (fun _ _ _ t => (k - t).toNat), ⟨by omega, by omega, ⟨t3, t4⟩, ⟨t8, by omega⟩, ⟨by omega, by omega⟩, ⟨rfl, rfl⟩, ⟨D2, fun j hj => D3 j hj⟩, fun q => by omega⟩, ?_⟩
    rintro hm mm ch t ⟨g0, g1, g2, g3, g4, g5, ⟨g6, g6b⟩, g7⟩
    refine ⟨⟨by omega, by omega⟩, fun c5 => ⟨⟨by omega, by omega⟩, ?_⟩, fun c5 => ?_⟩
    · have et : t = k := by omega
      have hr := g7 (by omega)
      have er : t.toNat - 1 = (k - 1).toNat := by omega
      rw [er] at hr
      have fin : Q (rowV ch) s1 := h s1 _ hC1 (Or.inr ⟨c, D, hD, Or.inr ⟨by omega, Or.inr (Or.inr ⟨c4, by omega, ch, by rw [Int.toNat_natCast]; exact hr, rfl⟩)⟩⟩)
      unfold rowV at fin
      refine ⟨fun c6 => ⟨⟨by omega, by omega⟩, ?_⟩, fun c6 => ?_⟩
      · rw [if_neg c6] at fin; exact fin
      · rw [if_pos c6] at fin; exact fin
    · obtain ⟨tn, rfl⟩ := Int.eq_ofNat_of_zero_le g0
      rw [Int.toNat_natCast] at g5 g6 g6b
      have htD : tn < D := by omega
      have eDs : D - tn = (D - tn - 1) + 1 := by omega
      have hyt := hY1 tn (by omega) hm mm g2.1 g2.2 g3.1 g3.2
      have eyt : gI s1 18 (896 * tn + 128 * hm + mm) = ((D - tn : Nat) : Int) := by
        rcases hyt with ⟨e, hno⟩ | ⟨j, j1, e, j2, j3⟩
        · exact absurd g6 (hno _ (by omega))
        · rw [e]
          rcases Nat.lt_trichotomy j (D - tn) with q | q | q
          · exact absurd j2 (g6b j q)
          · rw [q]
          · exact absurd g6 (j3 _ q)
      -- no choice before leads on
      refine ⟨(fun x => 0 ≤ x ∧ x ≤ n ∧ ∀ c', 0 ≤ c' → c' < x → ¬ pth g n (D - tn - 1) ((tn : Int) + 1) (g tn hm c') (ior mm (ishl 1 (g tn hm c')))), (fun x => (n - x).toNat), ⟨by omega, by omega, fun c' a b => by omega⟩, ?_⟩
      rintro x5 ⟨j0, j1, j2⟩
      refine ⟨⟨by omega, by omega⟩, ⟨by omega, by omega⟩, ⟨by omega, by omega⟩, ?_⟩
      refine sp_byChoice hn hg hT1 (by omega) (hY1 (tn + 1) (by omega)) g2 g3 ⟨j0, j1⟩ (fun v hv => ?_)
      have hto := hg tn hm x5 g2.1 g2.2
      have hm2 := ior_all hn g3 hto
      unfold IsY at hv
      rw [show (((tn + 1 : Nat) : Int)) = (tn : Int) + 1 by omega] at hv
      unfold wp_M_nextAt
      refine ⟨⟨by omega, by omega⟩, ⟨by omega, by omega⟩, ?_⟩
      rw [eyt]
      -- no way is shorter
      have hlow : ∀ j : Nat, j < D - tn - 1 → ∀ c', 0 ≤ c' → c' ≤ n → ¬ pth g n j ((tn : Int) + 1) (g tn hm c') (ior mm (ishl 1 (g tn hm c'))) := fun j hj c' a1 a2 z => g6b (j + 1) (by omega) ⟨c', a1, a2, z⟩
      refine ⟨fun c6 => ⟨⟨by omega, by omega⟩, ⟨by omega, by omega⟩, ?_⟩, fun c6 x8 e8 => ?_⟩
      · rw [hT1 tn hm x5 (by omega) (by omega) g2.1 g2.2 j0 j1]
        have hp : pth g n (D - tn - 1) ((tn : Int) + 1) (g tn hm x5) (ior mm (ishl 1 (g tn hm x5))) := by
          rcases hv with ⟨e, hno⟩ | ⟨j, j3, e, j4, j5⟩
          · omega
          · have : j = D - tn - 1 := by omega
            rw [← this]; exact j4
        have hc : IsC g n (D - tn - 1) tn hm mm x5 := ⟨j0, j1, hp, j2⟩
        intro x6 e6 x7 e7'
        have et : x7.toNat = tn + 1 := by omega
        refine ⟨⟨by omega, by omega, hto, by rw [e6]; exact hm2, ⟨j0, j1⟩, ?_, ⟨?_, fun j hj => ?_⟩, fun _ => ?_⟩, by dsimp only; omega⟩
        · rw [et]; exact ⟨hm, mm, x5, g5, hc, rfl, e6⟩
        · rw [et, e7', e6, show D - (tn + 1) = D - tn - 1 by omega]; exact hp
        · rw [e7', e6]; exact hlow j (by omega) x5 j0 j1
        · rw [et, Nat.add_sub_cancel]; exact ⟨hm, mm, g5, hc⟩
      · have hnp : ¬ pth g n (D - tn - 1) ((tn : Int) + 1) (g tn hm x5) (ior mm (ishl 1 (g tn hm x5))) := by
          intro z
          rcases hv with ⟨e, hno⟩ | ⟨j, j3, e, j4, j5⟩
          · exact hno _ (by omega) z
          · rcases Nat.lt_trichotomy j (D - tn - 1) with q | q | q
            · exact hlow j q x5 j0 j1 j4
            · omega
            · exact j5 _ q z
        have hlt : x5 < n := by
          apply Classical.byContradiction
          intro q
          rw [eDs] at g6
          obtain ⟨c', a1, a2, a3⟩ := g6
          by_cases z : c' = x5
          · rw [z] at a3; exact hnp a3
          · exact j2 c' a1 (by omega) a3
        refine ⟨⟨by omega, by omega, fun c' a1 a2 => ?_⟩, by dsimp only; omega⟩
        by_cases z : c' = x5
        · rw [z]; exact hnp
        · exact j2 c' a1 (by omega)
