/-! ===== the class's measles ===== -/
theorem cmr_le (V : VT) (s : ST) (hn : 0 ≤ vN V) : 0 ≤ cmr V s ∧ cmr V s ≤ vN V := by
  have := cnt_in (fun c => decide (0 ≤ tm V s c)) (vN V).toNat
  unfold cmr
  omega
/-- home c's part, but its own -/
def tP (V : VT) (s : ST) (x a : Int) : Int := if 0 ≤ tm V s a then (10 - x) * pw x (ltc V s a).toNat * pw 10 (vN V - 1 - ltc V s a).toNat else 0
def tO (V : VT) (s : ST) (x a : Int) : Int := if a = tBell s then pw x (cmr V s).toNat * pw 10 (vN V - cmr V s).toNat else 0
theorem tT_eq (V : VT) (s : ST) (x a : Int) : tT V s x a = tO V s x a + tP V s x a := rfl
theorem tPO_in {V : VT} (hW : WFV V) (s : ST) {x a : Int} (hx : 0 ≤ x ∧ x ≤ 10) (ha : 0 ≤ a ∧ a < vN V) : 0 ≤ tP V s x a ∧ 0 ≤ tO V s x a ∧ tP V s x a + tO V s x a ≤ 20000000 := by
  have h := tT_in hW s hx ha
  rw [tT_eq] at h
  have h7 := hW.2.1
  have hc := cmr_le V s (by have := hW.1; omega)
  have h1 := pw_mul_in hx (j := (cmr V s).toNat) (k := (vN V - cmr V s).toNat) (by omega)
  have hl := ltc_in V s ha
  have h2 := pw_mul_in hx (j := (ltc V s a).toNat) (k := (vN V - 1 - ltc V s a).toNat) (by omega)
  have a1 : 0 ≤ tP V s x a := by
    unfold tP
    split
    · rw [Int.mul_assoc]; exact Int.mul_nonneg (by omega) h2.1
    · omega
  have a2 : 0 ≤ tO V s x a := by
    unfold tO
    split
    · exact h1.1
    · omega
  omega
theorem sp_spreadFrom {σ : MS} {V : VT} {s : ST} {x C : Int} {Q : MS → Prop} (hN : NI σ V) (hx : 0 ≤ x ∧ x ≤ 10) (hb : 0 ≤ tBell s ∧ tBell s < vN V) (ht : ∀ d, 0 ≤ d → d < vN V → gI σ 20 d = tv V s d) (hc : gI σ 17 5 = cmr V s)
    (hC : (gL σ 32 (tBell s)).toInt = C) (hCb : 0 ≤ C ∧ C ≤ 200000000) (hT : ∀ a, 0 ≤ a → a < vN V → 0 ≤ (gL σ 33 a).toInt ∧ (gL σ 33 a).toInt ≤ 1000000000000000000)
    (h : ∀ σ', Fr [33] σ σ' → (∀ a, 0 ≤ a → a < vN V → (gL σ' 33 a).toInt = (gL σ 33 a).toInt + C * tT V s x a) → Q σ') : wp_Measles_spreadFrom (tBell s) x σ Q := by
  have hW := hN.2.2.1
  have h7 := hW.2.1
  have hcm := cmr_le V s (by omega)
  have hPO := fun a a1 a2 => tPO_in hW s (x := x) (a := a) hx ⟨a1, a2⟩
  have big : ∀ v : Int, 0 ≤ v → v ≤ 20000000 → 0 ≤ C * v ∧ C * v ≤ 4000000000000000 := by
    intro v v1 v2
    refine ⟨Int.mul_nonneg hCb.1 v1, ?_⟩
    have : C * v ≤ 200000000 * 20000000 := Int.mul_le_mul hCb.2 v2 v1 (by decide)
    omega
  unfold wp_Measles_spreadFrom
  refine sp_homes hN ⟨⟨hb.1, by omega⟩, ?_⟩
  rw [hc]
  refine sp_power hx ⟨hcm.1, by omega⟩ (fun r2 e2 => ⟨⟨by omega, by omega⟩, ?_⟩)
  refine sp_power (by decide) ⟨by omega, by omega⟩ (fun r3 e3 => ?_)
  intro s1 es1
  have hO := hPO (tBell s) hb.1 hb.2
  have eO : tO V s x (tBell s) = pw x (cmr V s).toNat * pw 10 (vN V - cmr V s).toNat := by unfold tO; rw [if_pos rfl]
  have m1 : (gL σ 32 (tBell s) * r2).toInt = C * pw x (cmr V s).toNat := by
    have q := pw_in hx (cmr V s).toNat
    have q2 := pw10 (k := (cmr V s).toNat) (by omega)
    have q3 := big (pw x (cmr V s).toNat) q.1 (by omega)
    rw [L_mul] <;> rw [hC, e2] <;> omega
  have m2 : (gL σ 32 (tBell s) * r2 * r3).toInt = C * tO V s x (tBell s) := by
    have q3 := big (tO V s x (tBell s)) hO.2.1 (by omega)
    rw [eO, ← Int.mul_assoc] at q3
    rw [eO, ← Int.mul_assoc, L_mul] <;> rw [m1, e3] <;> omega
  have m3 : (gL s1 33 (tBell s)).toInt = (gL σ 33 (tBell s)).toInt + C * tO V s x (tBell s) := by
    have q3 := big (tO V s x (tBell s)) hO.2.1 (by omega)
    have q4 := hT _ hb.1 hb.2
    rw [es1, gL_eq, L_add] <;> rw [m2] <;> omega
  have hF1 : Fr [33] σ s1 := by rw [es1]; exact Fr.L (by decide) _ _
  refine ⟨(fun y z => 0 ≤ y ∧ y ≤ vN V ∧ Fr [33] σ z ∧ ∀ a, 0 ≤ a → a < vN V → (gL z 33 a).toInt = (gL σ 33 a).toInt + C * tO V s x a + (if a < y then C * tP V s x a else 0)), (fun y _ => (vN V - y).toNat), ⟨by omega, by omega, hF1, fun a a1 a2 => ?_⟩, ?_⟩
  · rw [if_neg (by omega), Int.add_zero]
    by_cases e : a = tBell s
    · rw [e]; exact m3
    · have : tO V s x a = 0 := by unfold tO; rw [if_neg e]
      rw [this, Int.mul_zero, Int.add_zero, es1, gL_nj e]
  rintro x1 s2 ⟨g0, g1, hF2, hv⟩
  have t2 : ∀ d, 0 ≤ d → d < vN V → gI s2 20 d = tv V s d := fun d d1 d2 => by rw [hF2.gI (by decide)]; exact ht d d1 d2
  refine ⟨⟨by omega, by omega⟩, fun c => h s2 hF2 (fun a a1 a2 => ?_), fun c => ⟨⟨g0, by omega⟩, fun c1 x2 ex2 => ⟨⟨by omega, by omega, hF2, fun a a1 a2 => ?_⟩, by dsimp only; omega⟩, fun c1 => ?_⟩⟩
  · rw [hv a a1 a2, if_pos (by omega), tT_eq, Int.mul_add]; omega
  · rw [hv a a1 a2]
    have z : tm V s x1 < 0 := by
      rw [t2 x1 g0 (by omega)] at c1
      unfold tv at c1
      by_cases q : tm V s x1 < 0
      · exact q
      · rw [if_neg q] at c1; omega
    by_cases e : a = x1
    · have : tP V s x a = 0 := by unfold tP; rw [e, if_neg (by omega)]
      rw [if_neg (by omega), if_pos (by omega), this, Int.mul_zero]
    · by_cases q : a < x1
      · rw [if_pos q, if_pos (by omega)]
      · rw [if_neg q, if_neg (by omega)]
  · have z : 0 ≤ tm V s x1 := by
      rw [t2 x1 g0 (by omega)] at c1
      unfold tv at c1
      by_cases q : tm V s x1 < 0
      · rw [if_pos q] at c1; exact absurd rfl c1
      · omega
    have hN2 : NI s2 V := hN.Fr hF2 (by decide)
    refine sp_laterThan hN2 ⟨g0, by omega⟩ t2 z ?_
    have hl := ltc_in V s (c := x1) ⟨g0, by omega⟩
    refine sp_power hx ⟨hl.1, by omega⟩ (fun r5 e5 => ⟨⟨by omega, by omega⟩, ?_⟩)
    refine sp_power (by decide) ⟨by omega, by omega⟩ (fun r6 e6 => ?_)
    intro y1 ey s3 es3 x3 ex3
    have hP := hPO x1 g0 (by omega)
    have eP : tP V s x x1 = (10 - x) * pw x (ltc V s x1).toNat * pw 10 (vN V - 1 - ltc V s x1).toNat := by unfold tP; rw [if_pos z]
    have n1 : (i2l (10 - x)).toInt = 10 - x := i2l_I ⟨by omega, by omega⟩
    have n2 : (i2l (10 - x) * r5).toInt = (10 - x) * pw x (ltc V s x1).toNat := by
      have q := pw_in hx (ltc V s x1).toNat
      have q2 := pw10 (k := (ltc V s x1).toNat) (by omega)
      have q3 : 0 ≤ (10 - x) * pw x (ltc V s x1).toNat := Int.mul_nonneg (by omega) q.1
      have q4 : (10 - x) * pw x (ltc V s x1).toNat ≤ 10 * 10000000 := Int.mul_le_mul (by omega) (by omega) q.1 (by decide)
      rw [L_mul] <;> rw [n1, e5] <;> omega
    have n3 : y1.toInt = tP V s x x1 := by
      rw [eP] at hP ⊢
      rw [ey, L_mul] <;> rw [n2, e6] <;> omega
    have q3 := big (tP V s x x1) hP.1 (by omega)
    have n4 : (gL s2 32 (tBell s) * y1).toInt = C * tP V s x x1 := by
      have e32 : (gL s2 32 (tBell s)).toInt = C := by rw [hF2.gL (by decide)]; exact hC
      rw [L_mul] <;> rw [e32, n3] <;> omega
    have hO1 := big (tO V s x x1) (hPO x1 g0 (by omega)).2.1 (by omega)
    have hT1 := hT x1 g0 (by omega)
    have v1 := hv x1 g0 (by omega)
    rw [if_neg (by omega), Int.add_zero] at v1
    refine ⟨⟨by omega, by omega, by rw [es3]; exact hF2.tr (Fr.L (by decide) _ _), fun a a1 a2 => ?_⟩, by dsimp only; omega⟩
    by_cases e : a = x1
    · subst e
      rw [es3, gL_eq, if_pos (by omega), L_add] <;> rw [n4, v1] <;> omega
    · rw [es3, gL_nj e, hv a a1 a2]
      by_cases q : a < x1
      · rw [if_pos q, if_pos (by omega)]
      · rw [if_neg q, if_neg (by omega)]
def mks : List Nat := [17, 18, 19, 20, 38, 31, 32, 33]
theorem tP_cong {V : VT} {s s' : ST} (h : ∀ c, tm V s' c = tm V s c) (hb : tBell s' = tBell s) (x a : Int) : tT V s' x a = tT V s x a := by
  unfold tT ltc cmr
  rw [hb, h]
  have e1 : (fun c => decide (0 ≤ tm V s' c)) = fun c => decide (0 ≤ tm V s c) := by funext c; rw [h]
  have e2 : (fun d => decide (0 ≤ tm V s' d ∧ (tm V s a < tm V s' d ∨ (tm V s' d = tm V s a ∧ a < d)))) = fun d => decide (0 ≤ tm V s d ∧ (tm V s a < tm V s d ∨ (tm V s d = tm V s a ∧ a < d))) := by funext d; rw [h]
  rw [e1, e2]
theorem sp_mspread {σ : MS} {V : VT} {s : ST} {x : Int} {t : Nat} {Q : MS → Prop} (hN : NI σ V) (hx : 0 ≤ x ∧ x ≤ 10) (ht : t < 2) (hday : 0 ≤ tDay s ∧ tDay s ≤ 900000)
    (hd : gI σ 38 1 = tDay s + t ∧ gI σ 38 3 = (if t = 0 then tHeld s else 0) ∧ gI σ 38 4 = tSick s ∧ shX (gL σ 38 6) = tShut s ∧ shOK (gL σ 38 6))
    (hc : ∀ a, 0 ≤ a → a < vN V → (gL σ 32 a).toInt = mP V s x t a) (hbl : (gL σ 31 2).toInt = pw (pw 10 (vN V).toNat) t)
    (h : ∀ σ', Fr mks σ σ' → NI σ' V → gR σ' 17 2 = gR σ 17 2 → (∀ j, ¬ j = 2 → gI σ' 38 j = gI σ 38 j) → (∀ j, gL σ' 38 j = gL σ 38 j) → (∀ a, 0 ≤ a → a < vN V → (gL σ' 32 a).toInt = mP V s x (t + 1) a) → (gL σ' 31 2).toInt = pw (pw 10 (vN V).toNat) (t + 1) → Q σ') : wp_Measles_spread 38 x σ Q := by
  have hW := hN.2.2.1
  have h7 := hW.2.1
  have hn1 := hW.1
  have hin := mP_in hW s hx t (by omega)
  have hbd : bdm t ≤ 140000000 := by
    have : t = 0 ∨ t = 1 := by omega
    rcases this with rfl | rfl <;> decide
  unfold wp_Measles_spread
  refine ⟨(fun y z => 0 ≤ y ∧ y ≤ 7 ∧ Fr [33] σ z ∧ ∀ a, 0 ≤ a → a < y → gL z 33 a = 0), (fun y _ => (7 - y).toNat), ⟨by omega, by omega, Fr.rf, fun a a1 a2 => by omega⟩, ?_⟩
  rintro x1 s1 ⟨g0, g1, hF1, hv1⟩
  refine ⟨⟨by omega, by omega⟩, fun c => ?_, fun c => ⟨⟨by omega, by omega⟩, fun s9 e9 x7 e7 => ⟨⟨by omega, by omega, by rw [e9]; exact hF1.tr (Fr.L (by decide) _ _), fun a a1 a2 => ?_⟩, by dsimp only; omega⟩⟩⟩
  rotate_left
  · by_cases e : a = x1
    · rw [e9, e, gL_eq]
    · rw [e9, gL_nj e]; exact hv1 a a1 (by omega)
  have hS : ∀ y : Int, 0 ≤ y → y ≤ vN V → ∀ a, 0 ≤ a → a < vN V → 0 ≤ sumN (fun h => mP V s x t h * tT V (sM s t h) x a) y.toNat ∧ sumN (fun h => mP V s x t h * tT V (sM s t h) x a) y.toNat ≤ 20000000000000000 := by
    intro y y1 y2 a a1 a2
    have q := sumN_in (f := fun h => mP V s x t h * tT V (sM s t h) x a) (b := 140000000 * 20000000) y.toNat (fun h' h1 h2 => by
      have p1 := hin h' h1 (by omega)
      have p2 := tT_in hW (sM s t h') hx ⟨a1, a2⟩
      exact ⟨Int.mul_nonneg p1.1 p2.1, Int.mul_le_mul (by omega) p2.2 p2.1 (by decide)⟩)
    refine ⟨q.1, Int.le_trans q.2 ?_⟩
    have : ((y.toNat : Nat) : Int) * (140000000 * 20000000) ≤ 7 * (140000000 * 20000000) := Int.mul_le_mul_of_nonneg_right (by omega) (by decide)
    omega
  have same : ∀ j, gI s1 38 j = gI σ 38 j := fun j => hF1.gI (by decide) j
  refine ⟨(fun y z => 0 ≤ y ∧ y ≤ vN V ∧ Fr [17, 18, 19, 20, 38, 33] σ z ∧ NI z V ∧ gR z 17 2 = gR σ 17 2 ∧ (∀ j, ¬ j = 2 → gI z 38 j = gI σ 38 j) ∧ (∀ j, gL z 38 j = gL σ 38 j) ∧ ∀ a, 0 ≤ a → a < vN V → (gL z 33 a).toInt = sumN (fun h => mP V s x t h * tT V (sM s t h) x a) y.toNat), (fun y _ => (vN V - y).toNat), ⟨by omega, by omega, hF1.mono (by decide), hN.Fr hF1 (by decide), hF1.gR (by decide) 2, fun j _ => same j, fun j => hF1.gL (by decide) j, fun a a1 a2 => by rw [hv1 a a1 (by omega)]; rfl⟩, ?_⟩
  rintro x2 s2 ⟨g2, g3, hF2, hN2, hR2, hI2, hL2, hv2⟩
  refine sp_homes hN2 ⟨⟨by omega, by omega⟩, fun c2 => ?_, fun c2 => ⟨⟨by omega, by omega⟩, ?_⟩⟩
  · have hx2 : x2.toNat = (vN V).toNat := by omega
    rw [hx2] at hv2
    refine ⟨(fun y z => 0 ≤ y ∧ y ≤ 7 ∧ Fr [32] s2 z ∧ ∀ a, 0 ≤ a → a < y → gL z 32 a = gL s2 33 a), (fun y _ => (7 - y).toNat), ⟨by omega, by omega, Fr.rf, fun a a1 a2 => by omega⟩, ?_⟩
    rintro x3 s3 ⟨g4, g5, hF3, hv3⟩
    refine ⟨⟨by omega, by omega⟩, fun c3 => ?_, fun c3 => ⟨⟨by omega, by omega⟩, fun s5 e5 x4 e4 => ⟨⟨by omega, by omega, by rw [e5]; exact hF3.tr (Fr.L (by decide) _ _), fun a a1 a2 => ?_⟩, by dsimp only; omega⟩⟩⟩
    · have hN3 := hN2.Fr hF3 (by decide)
      refine sp_homes hN3 ?_
      refine sp_power (by decide) ⟨by omega, by omega⟩ (fun r3 e3 => ?_)
      intro s4 e4
      have hF4 : Fr [31] s3 s4 := by rw [e4]; exact Fr.L (by decide) _ _
      have hF34 : Fr [31, 32] s2 s4 := (hF3.mono (by decide)).tr (hF4.mono (by decide))
      have hp := pw10 (k := (vN V).toNat) (by omega)
      have hb2 : (gL s3 31 2).toInt = pw (pw 10 (vN V).toNat) t := by rw [hF3.gL (by decide), hF2.gL (by decide)]; exact hbl
      have hpt : 0 ≤ pw (pw 10 (vN V).toNat) t ∧ pw (pw 10 (vN V).toNat) t ≤ 10000000 := by
        have : t = 0 ∨ t = 1 := by omega
        rcases this with rfl | rfl
        · exact ⟨by show (0 : Int) ≤ 1; omega, by show (1 : Int) ≤ 10000000; omega⟩
        · show 0 ≤ 1 * pw 10 (vN V).toNat ∧ 1 * pw 10 (vN V).toNat ≤ 10000000
          omega
      have hm1 : 0 ≤ pw (pw 10 (vN V).toNat) t * pw 10 (vN V).toNat := Int.mul_nonneg hpt.1 (by omega)
      have hm2 : pw (pw 10 (vN V).toNat) t * pw 10 (vN V).toNat ≤ 10000000 * 10000000 := Int.mul_le_mul hpt.2 hp.2 (by omega) (by decide)
      refine h s4 (((hF2.mono (by decide)).tr (hF34.mono (by decide)))) (hN2.Fr hF34 (by decide)) ((hF34.gR (by decide) 2).trans hR2) (fun j hj => by rw [hF34.gI (by decide)]; exact hI2 j hj) (fun j => by rw [hF34.gL (by decide)]; exact hL2 j) (fun a a1 a2 => ?_) ?_
      · rw [hF4.gL (by decide), hv3 a a1 (by omega)]
        exact hv2 a a1 a2
      · rw [e4, gL_eq, L_mul] <;> rw [hb2, e3] <;> first | rfl | omega
    · by_cases e : a = x3
      · rw [e5, e, gL_eq, hF3.gL (by decide)]
      · rw [e5, gL_nj e]; exact hv3 a a1 (by omega)
  · have hch : (gL s2 32 x2).toInt = mP V s x t x2 := by rw [hF2.gL (by decide)]; exact hc x2 g2 (by omega)
    have nxt : ∀ a, sumN (fun h => mP V s x t h * tT V (sM s t h) x a) (x2 + 1).toNat = sumN (fun h => mP V s x t h * tT V (sM s t h) x a) x2.toNat + mP V s x t x2 * tT V (sM s t x2) x a := by
      intro a
      rw [show (x2 + 1).toNat = x2.toNat + 1 by omega]
      show _ + mP V s x t ((x2.toNat : Nat) : Int) * tT V (sM s t ((x2.toNat : Nat) : Int)) x a = _
      rw [show ((x2.toNat : Nat) : Int) = x2 by omega]
    refine ⟨fun c3 x5 e5 => ⟨⟨by omega, by omega, hF2, hN2, hR2, hI2, hL2, fun a a1 a2 => ?_⟩, by dsimp only; omega⟩, fun c3 => ?_⟩
    · rw [e5, nxt, hv2 a a1 a2]
      have : mP V s x t x2 = 0 := by rw [← hch, c3]; rfl
      rw [this, Int.zero_mul, Int.add_zero]
    · intro s6 e6
      have hF6 : Fr [38] s2 s6 := by rw [e6]; exact Fr.I (by decide) _ _
      have j2 : gI s6 38 2 = x2 := by rw [e6, gI_eq]
      have jo : ∀ j, ¬ j = 2 → gI s6 38 j = gI σ 38 j := fun j hj => by rw [e6, gI_nj hj]; exact hI2 j hj
      have jL : ∀ j, gL s6 38 j = gL σ 38 j := fun j => by rw [e6]; exact hL2 j
      have hN6 := hN2.Fr hF6 (by decide)
      have etm : ∀ c, tm V (stC s6 38) c = tm V (sM s t x2) c := fun c => tm_cong (s' := stC s6 38) (s := sM s t x2) ((jo 1 (by decide)).trans hd.1) j2 ((jo 3 (by decide)).trans hd.2.1) ((jo 4 (by decide)).trans hd.2.2.1) (by
        show shX (gL s6 38 6) = tShut s
        rw [jL]; exact hd.2.2.2.1) c
      refine sp_gather hN6 (by decide) (by rw [jo 1 (by decide), hd.1]; omega) (by rw [j2]; omega) (by rw [jL]; exact hd.2.2.2.2) (fun s7 hF7 hR7 hN7 ht7 _ hc7 => ?_)
      have hF67 : Fr [17, 18, 19, 20, 38] s2 s7 := (hF6.mono (by decide)).tr (hF7.mono (by decide))
      have eb : tBell (stC s6 38) = x2 := j2
      have hmx := hin x2 g2 (by omega)
      have hsf := @sp_spreadFrom s7 V (stC s6 38) x (mP V s x t x2)
      rw [eb] at hsf
      refine hsf hN7 hx ⟨g2, by omega⟩ ht7 hc7 (by rw [hF67.gL (by decide)]; exact hch) ⟨hmx.1, by omega⟩ (fun a a1 a2 => ?_) (fun s8 hF8 hv8 => ?_)
      · rw [hF67.gL (by decide), hv2 a a1 a2]
        have := hS x2 g2 (by omega) a a1 a2
        omega
      · intro x6 ex6
        refine ⟨⟨by omega, by omega, ?_, hN7.Fr hF8 (by decide), ?_, fun j hj => ?_, fun j => ?_, fun a a1 a2 => ?_⟩, by dsimp only; omega⟩
        · exact (hF2.tr (hF67.mono (by decide))).tr (hF8.mono (by decide))
        · rw [hF8.gR (by decide), hR7, hF6.gR (by decide)]; exact hR2
        · rw [hF8.gI (by decide), hF7.gI (by decide)]; exact jo j hj
        · rw [hF8.gL (by decide), hF7.gL (by decide)]; exact jL j
        · rw [hv8 a a1 a2, hF67.gL (by decide), hv2 a a1 a2, ex6, nxt]
          congr 2
          exact tP_cong etm eb x a
