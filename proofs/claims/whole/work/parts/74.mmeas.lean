/-! ===== the model's measles ===== -/
def mQ (V : VT) (s : ST) (x : Int) : Nat → Int → Int
  | 0, a => if a = tBell s then 1 else 0
  | t + 1, a => sumN (fun h => mQ V s x t h * tS V (sM s t h) x a) (vN V).toNat
theorem mQ_eq {V : VT} (hW : WFV V) (s : ST) {x : Int} (hx : 0 ≤ x ∧ x ≤ 10) : ∀ (t : Nat) (a : Int), 0 ≤ a → a < vN V → mQ V s x t a * pw (pw 10 (sg V s).toNat) t = mP V s x t a := by
  intro t
  induction t with
  | zero => intro a _ _; show _ * 1 = _; rw [Int.mul_one]; rfl
  | succ t ih =>
    intro a a1 a2
    show sumN _ _ * (pw (pw 10 (sg V s).toNat) t * pw 10 (sg V s).toNat) = sumN _ _
    rw [sumN_mulR]
    refine sumN_cong _ (fun h h1 h2 => ?_)
    have h2' : h < vN V := by omega
    have e : tS V (sM s t h) x a * pw 10 (sg V s).toNat = tT V (sM s t h) x a := tS_eq hW (sM s t h) hx ⟨a1, a2⟩ ⟨h1, h2'⟩
    rw [← ih h h1 h2', ← e]
    rw [Int.mul_assoc, Int.mul_assoc, Int.mul_left_comm (tS V (sM s t h) x a)]
theorem pw_pos {a : Int} (h : 0 < a) : ∀ k, 1 ≤ pw a k := by
  intro k
  induction k with
  | zero => exact Int.le_refl 1
  | succ k ih => have := Int.mul_pos (show 0 < pw a k by omega) h; show 1 ≤ pw a k * a; omega
theorem fC_in {s : ST} {x c b : Int} (hx : 0 ≤ x ∧ x ≤ 10) : 0 ≤ fC s x c b ∧ fC s x c b ≤ 10 := by
  unfold fC
  split <;> split <;> omega
theorem bw_in {s : ST} {x m : Int} (hx : 0 ≤ x ∧ x ≤ 10) : ∀ k : Nat, 0 ≤ bw (fC s x) m k ∧ bw (fC s x) m k ≤ pw 10 k := by
  intro k
  induction k with
  | zero => exact ⟨by show (0 : Int) ≤ 1; omega, Int.le_refl 1⟩
  | succ k ih =>
    have q := fC_in (s := s) (c := (k : Int)) (b := bitI m k) hx
    show 0 ≤ bw (fC s x) m k * fC s x k (bitI m k) ∧ bw (fC s x) m k * fC s x k (bitI m k) ≤ pw 10 k * 10
    exact ⟨Int.mul_nonneg ih.1 q.1, Int.mul_le_mul ih.2 q.2 q.1 (by omega)⟩
def tSk (V : VT) (s : ST) (x a : Int) (k : Nat) : Int := sumN (fun m => if toM V s m = a then wM V s x m else 0) k
theorem sumN_le {f : Int → Int} {a : Nat} (hf : ∀ i, 0 ≤ f i) : ∀ b : Nat, sumN f a ≤ sumN f (a + b) := by
  intro b
  induction b with
  | zero => exact Int.le_refl _
  | succ b ih => have := hf ((a + b : Nat) : Int); show sumN f a ≤ sumN f (a + b) + f ((a + b : Nat) : Int); omega
theorem tSk_in {V : VT} (hW : WFV V) (s : ST) {x a : Int} (hx : 0 ≤ x ∧ x ≤ 10) (ha : 0 ≤ a ∧ a < vN V) (hb : 0 ≤ tBell s ∧ tBell s < vN V) {k : Nat} (hk : k ≤ 2 ^ (vN V).toNat) : 0 ≤ tSk V s x a k ∧ tSk V s x a k ≤ tS V s x a ∧ tS V s x a ≤ 20000000 := by
  have hf : ∀ m, 0 ≤ (if toM V s m = a then wM V s x m else 0) := fun m => by
    split
    · exact (bw_in hx _).1
    · omega
  have h1 : 0 ≤ tSk V s x a k := sumN_nn k (fun i _ _ => hf i)
  have h2 : tSk V s x a k ≤ tS V s x a := by
    have := sumN_le (a := k) hf (2 ^ (vN V).toNat - k)
    rw [show k + (2 ^ (vN V).toNat - k) = 2 ^ (vN V).toNat by omega] at this
    exact this
  have h3 := tS_eq hW s hx ha hb
  have h4 := tT_in hW s hx ha
  have h5 := pw_pos (a := 10) (by decide) (sg V s).toNat
  have h6 : tS V s x a * 1 ≤ tS V s x a * pw 10 (sg V s).toNat := Int.mul_le_mul_of_nonneg_left h5 (by omega)
  omega
theorem mQ_in {V : VT} (hW : WFV V) (s : ST) {x : Int} (hx : 0 ≤ x ∧ x ≤ 10) (hb : 0 ≤ tBell s ∧ tBell s < vN V) : ∀ t : Nat, t ≤ 2 → ∀ a, 0 ≤ a → a < vN V → 0 ≤ mQ V s x t a ∧ mQ V s x t a ≤ bdm t := by
  have nn : ∀ t : Nat, ∀ a, 0 ≤ a → a < vN V → 0 ≤ mQ V s x t a := by
    intro t
    induction t with
    | zero => intro a _ _; show 0 ≤ (if _ then (1 : Int) else 0); split <;> omega
    | succ t ih =>
      intro a a1 a2
      refine sumN_nn _ (fun h h1 h2 => ?_)
      have h2' : h < vN V := by omega
      have q := tSk_in hW (sM s t h) hx ⟨a1, a2⟩ ⟨h1, h2'⟩ (k := 2 ^ (vN V).toNat) (Nat.le_refl _)
      exact Int.mul_nonneg (ih h h1 h2') q.1
  intro t ht a a1 a2
  have h1 := nn t a a1 a2
  have h2 := mQ_eq hW s hx t a a1 a2
  have h3 := (mP_in hW s hx t ht a a1 a2).2
  have h4 := pw_pos (a := pw 10 (sg V s).toNat) (by have := pw_pos (a := 10) (by decide) (sg V s).toNat; omega) t
  have h5 : mQ V s x t a * 1 ≤ mQ V s x t a * pw (pw 10 (sg V s).toNat) t := Int.mul_le_mul_of_nonneg_left h4 h1
  omega
theorem sp_common {a b : Int64} {Q : Int64 → Prop} (ha : 0 ≤ a.toInt) (hb : 0 ≤ b.toInt) (h : ∀ y : Int64, y.toInt = gI2 a.toInt b.toInt → Q y) : wp_M_common a b Q := by
  unfold wp_M_common
  refine ⟨(fun y z => 0 ≤ y.toInt ∧ 0 ≤ z.toInt ∧ gI2 y.toInt z.toInt = gI2 a.toInt b.toInt), (fun _ z => z.toInt.toNat), ⟨ha, hb, rfl⟩, ?_⟩
  rintro y1 y2 ⟨g2, g3, g4⟩
  refine ⟨fun c => h y1 (by
    rw [← g4, c]
    unfold gI2
    show _ = ((Nat.gcd y1.toInt.toNat 0 : Nat) : Int)
    rw [Nat.gcd_zero_right]
    omega), fun c2 y3 e3 => ?_⟩
  have hz : 0 < y2.toInt := by
    have : ¬ y2.toInt = 0 := fun z => c2 (by rw [← Int64.toInt_inj, z]; rfl)
    omega
  have e4 : y3.toInt = y1.toInt % y2.toInt := by rw [e3, L_rem g2 hz]
  have r1 : 0 ≤ y1.toInt % y2.toInt := Int.emod_nonneg _ (by omega)
  have r2 : y1.toInt % y2.toInt < y2.toInt := Int.emod_lt_of_pos _ hz
  exact ⟨⟨g3, by rw [e4]; exact r1, by rw [e4, gI2_mod g2 hz]; exact g4⟩, by dsimp only; rw [e4]; omega⟩
theorem gI2_scale {a b k : Int} (ha : 0 ≤ a) (hb : 0 ≤ b) (hk : 0 < k) : gI2 (a * k) (b * k) = gI2 a b * k := by
  obtain ⟨m, rfl⟩ := Int.eq_ofNat_of_zero_le ha
  obtain ⟨n, rfl⟩ := Int.eq_ofNat_of_zero_le hb
  obtain ⟨j, rfl⟩ := Int.eq_ofNat_of_zero_le (show 0 ≤ k by omega)
  unfold gI2
  rw [← Int.natCast_mul, ← Int.natCast_mul]
  simp only [Int.toNat_natCast]
  rw [Nat.gcd_mul_right, Int.natCast_mul]
theorem div_scale {a g k : Int} (hk : 0 < k) : a * k / (g * k) = a / g := Int.mul_ediv_mul_of_pos_left _ _ hk
theorem lt0 {y : Int64} : (0 : Int64) < y ↔ 0 < y.toInt := by
  rw [Int64.lt_iff_toInt_lt]
  rfl
theorem pow_n {n : Int} (hn : 1 ≤ n ∧ n ≤ 7) : ishl 1 n = ((2 ^ n.toNat : Nat) : Int) := ishl1 (by omega) (by omega)
theorem sp_spreads {σ : MS} {A : AT} {B x : Int} {t : Nat} {Q : MS → Prop} (hC : MI σ A) (hW : WF B A) (hB : 0 ≤ B ∧ B ≤ 800000) (hx : 0 ≤ x ∧ x ≤ 10) (ht : t < 2) (hc : ∀ a, 0 ≤ a → a < vN (aV A) → (gL σ 20 a).toInt = mQ (aV A) (aS A) x t a)
    (h : ∀ σ', MI σ' A → (∀ a, 0 ≤ a → a < vN (aV A) → (gL σ' 20 a).toInt = mQ (aV A) (aS A) x (t + 1) a) → Q σ') : wp_M_spreads t x σ Q := by
  have hn := hW.n
  have hWV := hW.1
  have hd := hW.2.1.1
  have hd2 := hW.2.1.2.1
  have hb : 0 ≤ tBell (aS A) ∧ tBell (aS A) < vN (aV A) := ⟨hW.2.1.2.2.1, hW.2.1.2.2.2.1⟩
  have e7 := all7 hn
  have hq := mQ_in hWV (aS A) hx hb
  have hb1 : bdm t ≤ 140000000 := by
    have : t = 0 ∨ t = 1 := by omega
    rcases this with rfl | rfl <;> decide
  unfold wp_M_spreads
  refine ⟨(fun y z => 0 ≤ y ∧ y ≤ vN (aV A) ∧ Fr [21] σ z ∧ ∀ a, 0 ≤ a → a < y → gL z 21 a = 0), (fun y _ => (vN (aV A) - y).toNat), ⟨by omega, by omega, Fr.rf, fun a a1 a2 => by omega⟩, ?_⟩
  rintro x1 s1 ⟨g0, g1, hF1, hv1⟩
  have hC1 : MI s1 A := hC.fr hF1 (by decide)
  rw [hC1.n]
  refine ⟨⟨by omega, by omega⟩, fun c => ?_, fun c => ⟨⟨by omega, by omega⟩, fun s17 e17 x17 e17' => ⟨⟨by omega, by omega, by rw [e17]; exact hF1.tr (Fr.L (by decide) _ _), fun a a1 a2 => ?_⟩, by dsimp only; omega⟩⟩⟩
  rotate_left
  · by_cases e : a = x1
    · rw [e17, e, gL_eq]
    · rw [e17, gL_nj e]; exact hv1 a a1 (by omega)
  -- what is gathered of the homes below y
  let S : Int → Int → Int := fun y a => sumN (fun h => mQ (aV A) (aS A) x t h * tS (aV A) (sM (aS A) t h) x a) y.toNat
  have Sn : ∀ y, 0 ≤ y → ∀ a, S (y + 1) a = S y a + mQ (aV A) (aS A) x t y * tS (aV A) (sM (aS A) t y) x a := by
    intro y y1 a
    show sumN _ (y + 1).toNat = _
    rw [show (y + 1).toNat = y.toNat + 1 by omega]
    show _ + mQ (aV A) (aS A) x t ((y.toNat : Nat) : Int) * tS (aV A) (sM (aS A) t ((y.toNat : Nat) : Int)) x a = _
    rw [show ((y.toNat : Nat) : Int) = y by omega]
  have Sin : ∀ y, 0 ≤ y → y ≤ vN (aV A) → ∀ a, 0 ≤ a → a < vN (aV A) → 0 ≤ S y a ∧ S y a ≤ 20000000000000000 := by
    intro y y1 y2 a a1 a2
    have q := sumN_in (f := fun h => mQ (aV A) (aS A) x t h * tS (aV A) (sM (aS A) t h) x a) (b := 140000000 * 20000000) y.toNat (fun h' h1 h2 => by
      have p1 := hq t (by omega) h' h1 (by omega)
      have p2 := tSk_in hWV (sM (aS A) t h') hx ⟨a1, a2⟩ ⟨h1, show h' < vN (aV A) by omega⟩ (k := 2 ^ (vN (aV A)).toNat) (Nat.le_refl _)
      exact ⟨Int.mul_nonneg p1.1 p2.1, Int.mul_le_mul (by omega) p2.2.2 p2.1 (by decide)⟩)
    refine ⟨q.1, Int.le_trans q.2 ?_⟩
    have : ((y.toNat : Nat) : Int) * (140000000 * 20000000) ≤ 7 * (140000000 * 20000000) := Int.mul_le_mul_of_nonneg_right (by omega) (by decide)
    omega
  refine ⟨(fun y z => 0 ≤ y ∧ y ≤ vN (aV A) ∧ MI z A ∧ (∀ a, gL z 20 a = gL σ 20 a) ∧ ∀ a, 0 ≤ a → a < vN (aV A) → (gL z 21 a).toInt = S y a), (fun y _ => (vN (aV A) - y).toNat), ⟨by omega, by omega, hC1, fun a => hF1.gL (by decide) a, fun a a1 a2 => by rw [hv1 a a1 (by omega)]; rfl⟩, ?_⟩
  rintro x2 s2 ⟨g2, g3, hC2, hk2, hv2⟩
  rw [hC2.n]
  refine ⟨⟨by omega, by omega⟩, fun c2 => ?_, fun c2 => ?_⟩
  · refine ⟨(fun y z => 0 ≤ y ∧ y ≤ vN (aV A) ∧ Fr [20] s2 z ∧ ∀ a, 0 ≤ a → a < y → gL z 20 a = gL s2 21 a), (fun y _ => (vN (aV A) - y).toNat), ⟨by omega, by omega, Fr.rf, fun a a1 a2 => by omega⟩, ?_⟩
    rintro x3 s3 ⟨g4, g5, hF3, hv3⟩
    have hC3 : MI s3 A := hC2.fr hF3 (by decide)
    rw [hC3.n]
    refine ⟨⟨by omega, by omega⟩, fun c3 => h s3 hC3 (fun a a1 a2 => ?_), fun c3 => ⟨⟨by omega, by omega⟩, fun s4 e4 x4 ex => ⟨⟨by omega, by omega, by rw [e4]; exact hF3.tr (Fr.L (by decide) _ _), fun a a1 a2 => ?_⟩, by dsimp only; omega⟩⟩⟩
    · rw [hv3 a a1 (by omega), hv2 a a1 a2, show x2 = vN (aV A) by omega]
      rfl
    · by_cases e : a = x3
      · rw [e4, e, gL_eq, hF3.gL (by decide)]
      · rw [e4, gL_nj e]; exact hv3 a a1 (by omega)
  · have hh : 0 ≤ x2 ∧ x2 < vN (aV A) := by omega
    have hP := hq t (by omega) x2 hh.1 hh.2
    let T : Int → Int → Int := fun a k => tSk (aV A) (sM (aS A) t x2) x a k.toNat
    refine ⟨(fun y z => 0 ≤ y ∧ y ≤ ishl 1 (vN (aV A)) ∧ MI z A ∧ (∀ a, gL z 20 a = gL σ 20 a) ∧ ∀ a, 0 ≤ a → a < vN (aV A) → (gL z 21 a).toInt = S x2 a + mQ (aV A) (aS A) x t x2 * T a y), (fun y _ => (ishl 1 (vN (aV A)) - y).toNat), ⟨by omega, by omega, hC2, hk2, fun a a1 a2 => by rw [hv2 a a1 a2]; show _ = _ + _ * 0; rw [Int.mul_zero, Int.add_zero]⟩, ?_⟩
    rintro x5 s5 ⟨g4, g5, hC5, hk5, hv5⟩
    rw [hC5.n]
    refine ⟨⟨by omega, by omega⟩, fun c5 x6 e6 => ⟨⟨by omega, by omega, hC5, hk5, fun a a1 a2 => ?_⟩, by dsimp only; omega⟩, fun c5 => ⟨⟨by omega, by omega⟩, fun y1 ey1 => ?_⟩⟩
    · rw [hv5 a a1 a2, e6, Sn x2 hh.1]
      have e : x5.toNat = 2 ^ (vN (aV A)).toNat := by rw [pow_n hn] at c5 g5; omega
      show _ + _ * tSk (aV A) (sM (aS A) t x2) x a x5.toNat = _
      rw [e]
      rfl
    · have v1 : y1.toInt = mQ (aV A) (aS A) x t x2 := by rw [ey1, hk5]; exact hc x2 hh.1 hh.2
      refine ⟨(fun y k => 0 ≤ k ∧ k ≤ vN (aV A) ∧ y.toInt = mQ (aV A) (aS A) x t x2 * bw (fC (aS A) x) x5 k.toNat), (fun _ k => (vN (aV A) - k).toNat), ⟨by omega, by omega, by rw [v1]; show _ = _ * 1; rw [Int.mul_one]⟩, ?_⟩
      rintro y2 x7 ⟨g6, g7, hy2⟩
      have hbw := bw_in (s := aS A) (m := x5) hx x7.toNat
      have hp7 := pw10 (k := x7.toNat) (by omega)
      have hy2b : 0 ≤ y2.toInt ∧ y2.toInt ≤ 140000000 * 10000000 := by
        rw [hy2]
        exact ⟨Int.mul_nonneg hP.1 hbw.1, Int.mul_le_mul (by omega) (by omega) hbw.1 (by decide)⟩
      refine ⟨⟨by omega, by omega⟩, fun c7 => ?_, fun c7 => ?_⟩
      · -- who is last, so many are missing
        have eW : bw (fC (aS A) x) x5 x7.toNat = wM (aV A) (sM (aS A) t x2) x x5 := by rw [show x7.toNat = (vN (aV A)).toNat by omega]; rfl
        rw [eW] at hy2
        have Tn : ∀ a, T a (x5 + 1) = T a x5 + (if toM (aV A) (sM (aS A) t x2) x5 = a then wM (aV A) (sM (aS A) t x2) x x5 else 0) := by
          intro a
          show tSk _ _ _ _ (x5 + 1).toNat = _
          rw [show (x5 + 1).toNat = x5.toNat + 1 by omega]
          show _ + (if toM _ _ ((x5.toNat : Nat) : Int) = a then wM _ _ _ ((x5.toNat : Nat) : Int) else 0) = _
          rw [show ((x5.toNat : Nat) : Int) = x5 by omega]
          rfl
        have hx5 : x5.toNat + 1 ≤ 2 ^ (vN (aV A)).toNat := by rw [pow_n hn] at c5; omega
        have Tin : ∀ a, 0 ≤ a → a < vN (aV A) → 0 ≤ mQ (aV A) (aS A) x t x2 * T a x5 ∧ mQ (aV A) (aS A) x t x2 * T a x5 ≤ 140000000 * 20000000 := by
          intro a a1 a2
          have q := tSk_in hWV (sM (aS A) t x2) hx ⟨a1, a2⟩ ⟨hh.1, hh.2⟩ (k := x5.toNat) (by omega)
          exact ⟨Int.mul_nonneg hP.1 q.1, Int.mul_le_mul (by omega) (Int.le_trans q.2.1 q.2.2) q.1 (by decide)⟩
        have step : ∀ z x9 to, MI z A → x9 = x5 + 1 → to = toM (aV A) (sM (aS A) t x2) x5 → (∀ a, gL z 20 a = gL σ 20 a) → (∀ a, 0 ≤ a → a < vN (aV A) → (gL z 21 a).toInt = (gL s5 21 a).toInt + (if a = to then y2.toInt else 0)) →
            ((0 ≤ x9 ∧ x9 ≤ ishl 1 (vN (aV A)) ∧ MI z A ∧ (∀ a, gL z 20 a = gL σ 20 a) ∧ ∀ a, 0 ≤ a → a < vN (aV A) → (gL z 21 a).toInt = S x2 a + mQ (aV A) (aS A) x t x2 * T a x9) ∧ (ishl 1 (vN (aV A)) - x9).toNat < (ishl 1 (vN (aV A)) - x5).toNat) := by
          intro z x9 to hz e9 eto hk hv
          refine ⟨⟨by omega, by omega, hz, hk, fun a a1 a2 => ?_⟩, by omega⟩
          rw [hv a a1 a2, hv5 a a1 a2, e9, Tn, eto, Int.mul_add]
          by_cases w : a = toM (aV A) (sM (aS A) t x2) x5
          · rw [if_pos w, if_pos w.symm, hy2]; omega
          · rw [if_neg w, if_neg (fun q => w q.symm), Int.mul_zero]; omega
        refine ⟨fun c8 x8 e8 => step s5 x8 _ hC5 e8 rfl hk5 (fun a _ _ => ?_), fun c8 => ?_⟩
        · have : y2.toInt = 0 := by rw [lt0] at c8; omega
          rw [this]
          split <;> omega
        · refine sp_copyNowF hC5 (fun s6 hF6 hC6 hS6 => ?_)
          have f1 : gI s6 14 1 = tDay (aS A) := by rw [← hS6]; rfl
          rw [f1]
          refine ⟨⟨by omega, by omega⟩, ?_⟩
          intro s7 e7' s8 e8
          have hF8 : Fr [14] s5 s8 := by rw [e8, e7']; exact (hF6.tr (Fr.I (by decide) _ _)).tr (Fr.I (by decide) _ _)
          have fld : ∀ j, ¬ j = 0 → ¬ j = 1 → gI s8 14 j = gI s6 14 j := fun j j0 j1 => by rw [e8, gI_nj j0, e7', gI_nj j1]
          have f80 : gI s8 14 0 = x2 := by rw [e8, gI_eq]
          have f81 : gI s8 14 1 = tDay (aS A) + t := by rw [e8, gI_nj (by decide), e7', gI_eq]
          have h13 : gI s8 13 2 = tHeld (aS A) := by rw [hF8.gI (by decide)]; exact hC5.s.2.2.1
          have go : ∀ s9 v, s9 = sI s8 14 2 v → v = (if t = 0 then tHeld (aS A) else 0) → wp_M_latest 14 x5 s9 (fun (r2 : Int) (s10 : MS) =>
             (¬ r2 = (-4) →
              (0 ≤ r2 ∧ r2 < 7) ∧
               ∀ s11 : MS, s11 = sL s10 21 r2 ((gL s10 21 r2) + y2) →
               ∀ x9 : Int, x9 = x5 + 1 →
               (0 ≤ x9 ∧ x9 ≤ ishl 1 (vN (aV A)) ∧ MI s11 A ∧ (∀ a, gL s11 20 a = gL σ 20 a) ∧ ∀ a, 0 ≤ a → a < vN (aV A) → (gL s11 21 a).toInt = S x2 a + mQ (aV A) (aS A) x t x2 * T a x9) ∧ (ishl 1 (vN (aV A)) - x9).toNat < (ishl 1 (vN (aV A)) - x5).toNat) ∧
              (r2 = (-4) →
              ∀ s12 : MS, s12 = sL s10 21 x2 ((gL s10 21 x2) + y2) →
               ∀ x10 : Int, x10 = x5 + 1 →
               (0 ≤ x10 ∧ x10 ≤ ishl 1 (vN (aV A)) ∧ MI s12 A ∧ (∀ a, gL s12 20 a = gL σ 20 a) ∧ ∀ a, 0 ≤ a → a < vN (aV A) → (gL s12 21 a).toInt = S x2 a + mQ (aV A) (aS A) x t x2 * T a x10) ∧ (ishl 1 (vN (aV A)) - x10).toNat < (ishl 1 (vN (aV A)) - x5).toNat)) := by
            intro s9 v e9 ev
            have hF9 : Fr [14] s5 s9 := by rw [e9]; exact hF8.tr (Fr.I (by decide) _ _)
            have hC9 : MI s9 A := hC5.fr hF9 (by decide)
            have k9 : ∀ j, ¬ j = 2 → gI s9 14 j = gI s8 14 j := fun j hj => by rw [e9, gI_nj hj]
            have etm : ∀ c, tm (aV A) (stR (gI s9 14)) c = tm (aV A) (sM (aS A) t x2) c := fun c => tm_cong (s' := stR (gI s9 14)) (s := sM (aS A) t x2) ((k9 1 (by decide)).trans f81) ((k9 0 (by decide)).trans f80) (by
              show gI s9 14 2 = _
              rw [e9, gI_eq]; exact ev) (by
              show gI s9 14 3 = tSick (aS A)
              rw [k9 3 (by decide), fld 3 (by decide) (by decide), ← hS6]; rfl) (by
              show shM (gI s9 14 4) = tShut (aS A)
              rw [k9 4 (by decide), fld 4 (by decide) (by decide), ← hS6]; rfl) c
            have hwin := who_in hWV (sM (aS A) t x2) x5
            refine sp_latest hC9.N (Or.inr rfl) (by rw [k9 0 (by decide), f80]; exact hh) (by rw [k9 1 (by decide), f81]; omega) (fun s10 hF10 _ => ?_)
            rw [who_cong etm]
            have hF910 : Fr [14, 15] s5 s10 := (hF9.mono (by decide)).tr (hF10.mono (by decide))
            have hC10 : MI s10 A := hC5.fr hF910 (by decide)
            have g21 : ∀ a, gL s10 21 a = gL s5 21 a := fun a => hF910.gL (by decide) a
            have g20 : ∀ a, gL s10 20 a = gL σ 20 a := fun a => by rw [hF910.gL (by decide)]; exact hk5 a
            have fin : ∀ s11 to, (0 ≤ to ∧ to < vN (aV A)) → s11 = sL s10 21 to ((gL s10 21 to) + y2) → to = toM (aV A) (sM (aS A) t x2) x5 → ∀ x9, x9 = x5 + 1 → ((0 ≤ x9 ∧ x9 ≤ ishl 1 (vN (aV A)) ∧ MI s11 A ∧ (∀ a, gL s11 20 a = gL σ 20 a) ∧ ∀ a, 0 ≤ a → a < vN (aV A) → (gL s11 21 a).toInt = S x2 a + mQ (aV A) (aS A) x t x2 * T a x9) ∧ (ishl 1 (vN (aV A)) - x9).toNat < (ishl 1 (vN (aV A)) - x5).toNat) := by
              intro s11 to hto e11 eto x9 e9'
              refine step s11 x9 to (by rw [e11]; exact hC10.fr (Fr.L (ks := [21]) (by decide) _ _) (by decide)) e9' eto (fun a => by rw [e11, gL_nk (by decide)]; exact g20 a) (fun a a1 a2 => ?_)
              by_cases w : a = to
              · rw [if_pos w, e11, w, gL_eq, g21]
                have s1' := Sin x2 hh.1 (by omega) to hto.1 hto.2
                have t1' := Tin to hto.1 hto.2
                have v' := hv5 to hto.1 hto.2
                rw [L_add] <;> omega
              · rw [if_neg w, e11, gL_nj w, g21, Int.add_zero]
            refine ⟨fun c9 => ⟨by omega, fun s11 e11 x9 e9' => fin s11 _ (by omega) e11 (by unfold toM; rw [if_neg c9]) x9 e9'⟩, fun c9 s12 e12 x10 e10 => fin s12 x2 hh e12 (by unfold toM; rw [if_pos c9]; rfl) x10 e10⟩
          refine ⟨fun c9 s9 e9 => go s9 _ e9 (by rw [if_neg (by omega)]), fun c9 s9 e9 => go s9 _ e9 (by rw [if_pos (by omega)]; exact h13)⟩
      · -- a factor more
        have hmul : ∀ (f : Int64) (y3 : Int64) (x13 : Int), y3 = y2 * f → f.toInt = fC (aS A) x x7 (bitI x5 x7) → x13 = x7 + 1 → ((0 ≤ x13 ∧ x13 ≤ vN (aV A) ∧ y3.toInt = mQ (aV A) (aS A) x t x2 * bw (fC (aS A) x) x5 x13.toNat) ∧ (vN (aV A) - x13).toNat < (vN (aV A) - x7).toNat) := by
          intro f y3 x13 e3 ef e13
          have q := fC_in (s := aS A) (c := x7) (b := bitI x5 x7) hx
          have m1 : 0 ≤ y2.toInt * f.toInt := Int.mul_nonneg hy2b.1 (by omega)
          have m2 : y2.toInt * f.toInt ≤ (140000000 * 10000000) * 10 := Int.mul_le_mul hy2b.2 (by omega) (by omega) (by decide)
          refine ⟨⟨by omega, by omega, ?_⟩, by omega⟩
          rw [e3, L_mul m1 (by omega), hy2, ef, show x13.toNat = x7.toNat + 1 by omega]
          show _ = _ * (bw (fC (aS A) x) x5 x7.toNat * fC (aS A) x ((x7.toNat : Nat) : Int) (bitI x5 ((x7.toNat : Nat) : Int)))
          rw [show ((x7.toNat : Nat) : Int) = x7 by omega, Int.mul_assoc]
        have hsk : gI s5 13 3 = tSick (aS A) := hC5.s.2.2.2.1
        rw [hsk]
        have n1 : (i2l (10 - x)).toInt = 10 - x := i2l_I ⟨by omega, by omega⟩
        have n2 : (i2l x).toInt = x := i2l_I ⟨by omega, by omega⟩
        refine sp_Mhas (fun qo => sp_Mhas (fun qs => ⟨fun z => absurd z (by decide), fun _ => ⟨fun z => absurd z (by decide), fun _ y6 e6 x16 e16 => hmul 0 y6 x16 e6 (by unfold fC; rw [if_pos qs, if_pos qo]; rfl) e16⟩⟩) (fun qs => ⟨fun _ => ⟨fun z => absurd z (by decide), fun _ y4 e4 x14 e14 => hmul _ y4 x14 e4 (by unfold fC; rw [if_neg qs, if_pos qo, n2]) e14⟩, fun z => absurd rfl z⟩)) (fun qo => sp_Mhas (fun qs => ⟨fun z => absurd z (by decide), fun _ => ⟨fun _ y5 e5 x15 e15 => hmul 1 y5 x15 e5 (by unfold fC; rw [if_pos qs, if_neg qo]; rfl) e15, fun z => absurd rfl z⟩⟩) (fun qs => ⟨fun _ => ⟨fun _ y3 e3 x13 e13 => hmul _ y3 x13 e3 (by unfold fC; rw [if_neg qs, if_neg qo, n1]) e13, fun z => absurd rfl z⟩, fun z => absurd rfl z⟩))
