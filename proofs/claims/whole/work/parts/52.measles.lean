/-! ===== the class's measles, to the end ===== -/
theorem sp_reckon {σ : MS} {V : VT} {s : ST} {x n : Int} {Q : MS → Prop} (hN : NI σ V) (hx : 0 ≤ x ∧ x ≤ 10) (hn : 0 ≤ n ∧ n ≤ 2) (hday : 0 ≤ tDay s ∧ tDay s ≤ 900000) (hS : stC σ 38 = s) (hsh : shOK (gL σ 38 6))
    (h : ∀ σ', Fr mks σ σ' → NI σ' V → gR σ' 17 2 = gR σ 17 2 → (∀ a, 0 ≤ a → a < vN V → (gL σ' 32 a).toInt = mP V s x n.toNat a) → (gL σ' 31 2).toInt = pw (pw 10 (vN V).toNat) n.toNat → Q σ') : wp_Measles_reckon 38 n x σ Q := by
  have h7 := hN.2.2.1.2.1
  have eb : gI σ 38 2 = tBell s := by rw [← hS]; rfl
  unfold wp_Measles_reckon
  refine ⟨(fun y z => 0 ≤ y ∧ y ≤ 7 ∧ Fr [32] σ z ∧ ∀ a, 0 ≤ a → a < y → (gL z 32 a).toInt = mP V s x 0 a), (fun y _ => (7 - y).toNat), ⟨by omega, by omega, Fr.rf, fun a a1 a2 => by omega⟩, ?_⟩
  rintro x1 s1 ⟨g0, g1, hF1, hv1⟩
  rw [hF1.gI (by decide), eb]
  have p0 : mP V s x 0 x1 = if x1 = tBell s then 1 else 0 := rfl
  refine ⟨⟨by omega, by omega⟩, fun c => ?_, fun c => ⟨fun c1 => ⟨⟨by omega, by omega⟩, fun s7 e7 x4 e4 => ⟨⟨by omega, by omega, by rw [e7]; exact hF1.tr (Fr.L (by decide) _ _), fun a a1 a2 => ?_⟩, by dsimp only; omega⟩⟩, fun c1 => ⟨⟨by omega, by omega⟩, fun s7 e7 x4 e4 => ⟨⟨by omega, by omega, by rw [e7]; exact hF1.tr (Fr.L (by decide) _ _), fun a a1 a2 => ?_⟩, by dsimp only; omega⟩⟩⟩⟩
  · intro s2 e2
    have hF2 : Fr [31, 32] σ s2 := by rw [e2]; exact (hF1.mono (by decide)).tr (Fr.L (by decide) _ _)
    have i2 : ∀ j, gI s2 38 j = gI σ 38 j := fun j => hF2.gI (by decide) j
    have d1 : gI σ 38 1 = tDay s := by rw [← hS]; rfl
    have d3 : gI σ 38 3 = tHeld s := by rw [← hS]; rfl
    have d4 : gI σ 38 4 = tSick s := by rw [← hS]; rfl
    have d6 : shX (gL σ 38 6) = tShut s := by rw [← hS]; rfl
    refine ⟨(fun y z => 0 ≤ y ∧ y ≤ n ∧ Fr mks σ z ∧ NI z V ∧ gR z 17 2 = gR σ 17 2 ∧ (gI z 38 1 = tDay s + y ∧ gI z 38 3 = (if y = 0 then tHeld s else 0) ∧ gI z 38 4 = tSick s ∧ gL z 38 6 = gL σ 38 6) ∧ (∀ a, 0 ≤ a → a < vN V → (gL z 32 a).toInt = mP V s x y.toNat a) ∧ (gL z 31 2).toInt = pw (pw 10 (vN V).toNat) y.toNat), (fun y _ => (n - y).toNat), ⟨by omega, by omega, hF2.mono (by decide), hN.Fr hF2 (by decide), hF2.gR (by decide) 2, ⟨by rw [i2, d1]; omega, by rw [i2, d3, if_pos rfl], by rw [i2, d4], hF2.gL (by decide) 6⟩, fun a a1 a2 => ?_, ?_⟩, ?_⟩
    · have : gL s2 32 a = gL s1 32 a := by rw [e2, gL_nk (by decide)]
      rw [this]
      exact hv1 a a1 (by omega)
    · rw [e2, gL_eq]; rfl
    · rintro x2 s3 ⟨g2, g3, hF3, hN3, hR3, ⟨k1, k3, k4, k6⟩, hv3, hb3⟩
      refine ⟨⟨by omega, by omega⟩, fun c2 => ?_, fun c2 => ?_⟩
      · have e : x2.toNat = n.toNat := by omega
        rw [e] at hv3 hb3
        exact h s3 hF3 hN3 hR3 hv3 hb3
      · refine sp_mspread (s := s) (t := x2.toNat) hN3 hx (by omega) hday ⟨by rw [k1]; omega, ?_, k4, by rw [k6]; exact d6, by rw [k6]; exact hsh⟩ hv3 hb3 (fun s4 hF4 hN4 hR4 hI4 hL4 hv4 hb4 => ?_)
        · rw [k3]
          by_cases e : x2 = 0
          · rw [if_pos e, if_pos (by omega)]
          · rw [if_neg e, if_neg (by omega)]
        · intro s5 e5
          have q1 : gI s5 38 1 = tDay s + x2 := by rw [e5, gI_nj (by decide), hI4 1 (by decide)]; exact k1
          rw [q1]
          refine ⟨⟨by omega, by omega⟩, ?_⟩
          intro s6 e6 x3 e3
          have hF6 : Fr [38] s4 s6 := by rw [e6, e5]; exact (Fr.I (by decide) _ _).tr (Fr.I (by decide) _ _)
          have ex : x3.toNat = x2.toNat + 1 := by omega
          refine ⟨⟨by omega, by omega, (hF3.tr hF4).tr (hF6.mono (by decide)), hN4.Fr hF6 (by decide), ?_, ⟨?_, ?_, ?_, ?_⟩, fun a a1 a2 => ?_, ?_⟩, by dsimp only; omega⟩
          · rw [hF6.gR (by decide), hR4]; exact hR3
          · rw [e6, gI_eq]; omega
          · rw [e6, gI_nj (by decide), e5, gI_eq, if_neg (by omega)]
          · rw [e6, gI_nj (by decide), e5, gI_nj (by decide), hI4 4 (by decide)]; exact k4
          · rw [e6, e5]
            show gL s4 38 6 = _
            rw [hL4]; exact k6
          · rw [hF6.gL (by decide), ex]; exact hv4 a a1 a2
          · rw [hF6.gL (by decide), ex]; exact hb4
  · by_cases e : a = x1
    · rw [e7, e, gL_eq, p0, if_neg c1]; rfl
    · rw [e7, gL_nj e]; exact hv1 a a1 (by omega)
  · by_cases e : a = x1
    · rw [e7, e, gL_eq, p0, if_pos c1]; rfl
    · rw [e7, gL_nj e]; exact hv1 a a1 (by omega)
theorem halve {a b : Int} (hb : 0 < b) (hab : b < a) : b * (a % b) * 2 ≤ a * b := by
  have h1 : 0 ≤ a % b := Int.emod_nonneg _ (by omega)
  have h2 : a % b < b := Int.emod_lt_of_pos _ hb
  have h3 : a = b * (a / b) + a % b := (Int.mul_ediv_add_emod a b).symm
  have h4 : 1 ≤ a / b := by
    have := Int.le_ediv_of_mul_le (a := 1) (b := a) (c := b) hb (by omega)
    exact this
  have h5 : b * 1 ≤ b * (a / b) := Int.mul_le_mul_of_nonneg_left h4 (by omega)
  have h6 : a % b * 2 ≤ a := by omega
  have h7 : b * (a % b * 2) ≤ b * a := Int.mul_le_mul_of_nonneg_left h6 (by omega)
  rw [Int.mul_assoc, Int.mul_comm a b]
  exact h7
theorem gI2_mod {a b : Int} (ha : 0 ≤ a) (hb : 0 < b) : gI2 b (a % b) = gI2 a b := by
  unfold gI2
  obtain ⟨m, rfl⟩ := Int.eq_ofNat_of_zero_le ha
  obtain ⟨n, rfl⟩ := Int.eq_ofNat_of_zero_le (show 0 ≤ b by omega)
  rw [show ((m : Int) % (n : Int)) = ((m % n : Nat) : Int) from rfl]
  simp only [Int.toNat_natCast]
  rw [Nat.gcd_comm m n, Nat.gcd_rec n m, Nat.gcd_comm (m % n) n]
def hv2 : Nat → Int
  | 0 => 1
  | k + 1 => hv2 k * 2
theorem sp_commonDivisor {a b : Int64} {Q : Int64 → Prop} (ha : 0 ≤ a.toInt) (hb : 0 ≤ b.toInt) (h : ∀ y : Int64, y.toInt = gI2 a.toInt b.toInt → Q y) : wp_B_commonDivisor a b Q := by
  unfold wp_B_commonDivisor
  have la : a.toInt < 9223372036854775808 := Int64.toInt_lt a
  have lb' : b.toInt < 9223372036854775808 := Int64.toInt_lt b
  have hp : ∀ k, 1 ≤ hv2 k := by
    intro k
    induction k with
    | zero => exact Int.le_refl 1
    | succ k ih => show 1 ≤ hv2 k * 2; omega
  refine ⟨(fun y z x => 0 ≤ x ∧ x ≤ 200 ∧ 0 ≤ y.toInt ∧ 0 ≤ z.toInt ∧ gI2 y.toInt z.toInt = gI2 a.toInt b.toInt ∧ (1 ≤ x → z.toInt < y.toInt ∧ y.toInt * z.toInt * hv2 (x - 1).toNat ≤ 9223372036854775808 * 9223372036854775808)), (fun _ _ x => (200 - x).toNat), ⟨by omega, by omega, ha, hb, rfl, fun q => by omega⟩, ?_⟩
  rintro y1 y2 x1 ⟨g0, g1, g2, g3, g4, g5⟩
  have fin : y2.toInt = 0 → Q y1 := fun e => h y1 (by
    rw [← g4, e]
    unfold gI2
    show _ = ((Nat.gcd y1.toInt.toNat 0 : Nat) : Int)
    rw [Nat.gcd_zero_right]
    omega)
  refine ⟨⟨by omega, by omega⟩, fun c => fin ?_, fun c => ⟨fun c2 => fin (by rw [c2]; rfl), fun c2 y3 e3 x2 e2 => ?_⟩⟩
  · have q := g5 (by omega)
    have e : (x1 - 1).toNat = 199 := by omega
    rw [e] at q
    apply Classical.byContradiction
    intro hne
    have h1 : 1 ≤ y2.toInt := by omega
    have h2 : 1 * 1 ≤ y1.toInt * y2.toInt := Int.mul_le_mul (by omega) h1 (by decide) (by omega)
    have h3 : 1 * hv2 199 ≤ y1.toInt * y2.toInt * hv2 199 := Int.mul_le_mul_of_nonneg_right (by omega) (by have := hp 199; omega)
    have h4 : ¬ (1 * hv2 199 ≤ 9223372036854775808 * 9223372036854775808) := by decide +kernel
    exact h4 (Int.le_trans h3 q.2)
  · have hz : 0 < y2.toInt := by
      have : ¬ y2.toInt = 0 := fun z => c2 (by rw [← Int64.toInt_inj, z]; rfl)
      omega
    have e4 : y3.toInt = y1.toInt % y2.toInt := by rw [e3, L_rem g2 hz]
    have r1 : 0 ≤ y1.toInt % y2.toInt := Int.emod_nonneg _ (by omega)
    have r2 : y1.toInt % y2.toInt < y2.toInt := Int.emod_lt_of_pos _ hz
    refine ⟨⟨by omega, by omega, g3, by rw [e4]; exact r1, by rw [e4, gI2_mod g2 hz]; exact g4, fun _ => ⟨by rw [e4]; exact r2, ?_⟩⟩, by dsimp only; omega⟩
    rw [e4]
    by_cases e0 : x1 = 0
    · rw [show (x2 - 1).toNat = 0 by omega]
      show y2.toInt * (y1.toInt % y2.toInt) * 1 ≤ _
      have l2 : y2.toInt < 9223372036854775808 := Int64.toInt_lt y2
      rw [Int.mul_one]
      exact Int.mul_le_mul (by omega) (by omega) r1 (by decide)
    · obtain ⟨q1, q2⟩ := g5 (by omega)
      have hh := halve hz q1
      rw [show (x2 - 1).toNat = (x1 - 1).toNat + 1 by omega]
      show y2.toInt * (y1.toInt % y2.toInt) * (hv2 (x1 - 1).toNat * 2) ≤ _
      have e5 : y2.toInt * (y1.toInt % y2.toInt) * (hv2 (x1 - 1).toNat * 2) = y2.toInt * (y1.toInt % y2.toInt) * 2 * hv2 (x1 - 1).toNat := by
        rw [Int.mul_comm (hv2 (x1 - 1).toNat) 2, ← Int.mul_assoc]
      rw [e5]
      exact Int.le_trans (Int.mul_le_mul_of_nonneg_right hh (by have := hp (x1 - 1).toNat; omega)) q2
theorem gI2_pos {a b : Int} (hb : 0 < b) : 1 ≤ gI2 a b := by
  unfold gI2
  have : 0 < Nat.gcd a.toNat b.toNat := Nat.gcd_pos_of_pos_right _ (by omega)
  omega
theorem sp_B_measles {σ : MS} {A : AT} {B c n x p : Int} {Q : Int64 → MS → Prop} (hC : CI σ A) (hW : WF B A) (hB : 0 ≤ B ∧ B ≤ 800000) (h : ∀ σ' (y : Int64), CI σ' A → y.toInt = fMeasles A c n x p → Q y σ') : wp_B_measles c n x p σ Q := by
  have hn := hW.n
  have bad : ¬ ((0 ≤ c ∧ c < vN (aV A)) ∧ (0 ≤ n ∧ n ≤ 2) ∧ (0 ≤ x ∧ x ≤ 10) ∧ 0 ≤ p ∧ p ≤ 1) → Q (-1) σ := fun q => h σ (-1) hC (by unfold fMeasles; rw [if_neg q]; rfl)
  unfold wp_B_measles
  refine hasC hC.n (fun ha => ⟨fun q => absurd q (by decide), fun _ => ⟨fun c1 => bad (by omega), fun c1 => ⟨fun c2 => bad (by omega), fun c2 => ⟨fun c3 => bad (by omega), fun c3 => ⟨fun c4 => bad (by omega), fun c4 => ⟨fun c5 => bad (by omega), fun c5 => ⟨fun c6 => ?_, fun c6 => bad (by omega)⟩⟩⟩⟩⟩⟩⟩) (fun ha => ⟨fun _ => bad (fun q => ha q.1), fun q => absurd rfl q⟩)
  refine sp_dream hC (fun s1 hC1 hS1 hL1 => ?_)
  have hx : 0 ≤ x ∧ x ≤ 10 := by omega
  have hd1 := hW.2.1.1
  have hd2 := hW.2.1.2.1
  refine sp_reckon (s := aS A) hC1.N hx (by omega) (by omega) hS1 hL1 (fun s2 hF2 hN2 hR2 hv2 hb2 => ⟨⟨by omega, by omega⟩, ?_⟩)
  have hC2 : CI s2 A := by
    obtain ⟨k1, k2, k3, k4, k5, k6, k7⟩ := hC1
    exact ⟨k1.N hF2 (by decide) hN2 hR2, k2.fr hF2 (by decide), k3.fr hF2 (by decide), k4.fr hF2 (by decide), k5.fr hF2 (by decide), k6.fr hF2 (by decide), k7.fr hF2 (by decide)⟩
  intro y1 e1
  have v1 : y1.toInt = mP (aV A) (aS A) x n.toNat c := by rw [e1]; exact hv2 c ha.1 ha.2
  have p1 := mP_in hW.1 (aS A) hx n.toNat (by omega) c ha.1 ha.2
  have hb0 : 0 < pw (pw 10 (vN (aV A)).toNat) n.toNat := by
    have hp := pw10 (k := (vN (aV A)).toNat) (by omega)
    have : ∀ k, 0 < pw (pw 10 (vN (aV A)).toNat) k := by
      intro k
      induction k with
      | zero => show (0 : Int) < 1; omega
      | succ k ih => exact Int.mul_pos ih (by omega)
    exact this _
  refine sp_commonDivisor (by omega) (by omega) (fun r4 e4 => ?_)
  rw [v1, hb2] at e4
  have hg := gI2_pos (a := mP (aV A) (aS A) x n.toNat c) hb0
  intro y2 e2
  have ey : y2 = r4 := by
    rw [e2]
    unfold lmax
    rw [if_neg]
    rw [Int64.lt_iff_toInt_lt]
    have : ((1 : Int64)).toInt = 1 := rfl
    omega
  rw [ey]
  have hne : ¬ r4 = 0 := fun z => by
    rw [z] at e4
    have : ((0 : Int64)).toInt = 0 := rfl
    omega
  have hgp : 0 < r4.toInt := by omega
  have hfm : fMeasles A c n x p = (if p = 0 then mP (aV A) (aS A) x n.toNat c else pw (pw 10 (vN (aV A)).toNat) n.toNat) / gI2 (mP (aV A) (aS A) x n.toNat c) (pw (pw 10 (vN (aV A)).toNat) n.toNat) := by
    unfold fMeasles
    rw [if_pos ⟨ha, by omega, hx, by omega, c6⟩]
  refine ⟨fun q => ⟨hne, h s2 _ hC2 ?_⟩, fun q => ⟨hne, h s2 _ hC2 ?_⟩⟩
  · rw [hfm, if_neg q, L_div (by omega) hgp, hb2, e4]
  · rw [hfm, if_pos q, L_div (by omega) hgp, v1, e4]
