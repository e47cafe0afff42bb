/-! ===== measles: what is said, and the class's way of it ===== -/
def pw (a : Int) : Nat → Int
  | 0 => 1
  | k + 1 => pw a k * a
def sumN (f : Int → Int) : Nat → Int
  | 0 => 0
  | k + 1 => sumN f k + f k
theorem pw_in {a : Int} (h : 0 ≤ a ∧ a ≤ 10) : ∀ k, 0 ≤ pw a k ∧ pw a k ≤ pw 10 k := by
  intro k
  induction k with
  | zero => exact ⟨by show (0 : Int) ≤ 1; omega, Int.le_refl 1⟩
  | succ k ih =>
    refine ⟨Int.mul_nonneg ih.1 h.1, ?_⟩
    show pw a k * a ≤ pw 10 k * 10
    exact Int.mul_le_mul ih.2 h.2 h.1 (Int.le_trans ih.1 ih.2)
theorem pw_add (a : Int) (j : Nat) : ∀ k, pw a (j + k) = pw a j * pw a k := by
  intro k
  induction k with
  | zero => show pw a j = pw a j * 1; rw [Int.mul_one]
  | succ k ih =>
    show pw a (j + k) * a = pw a j * (pw a k * a)
    rw [ih, Int.mul_assoc]
theorem pw10 {k : Nat} (h : k ≤ 7) : 1 ≤ pw 10 k ∧ pw 10 k ≤ 10000000 := by
  have key : ∀ k : Fin 8, 1 ≤ pw 10 k.val ∧ pw 10 k.val ≤ 10000000 := by decide +kernel
  exact key ⟨k, by omega⟩
theorem pw_mul_in {x : Int} (hx : 0 ≤ x ∧ x ≤ 10) {j k : Nat} (h : j + k ≤ 7) : 0 ≤ pw x j * pw 10 k ∧ pw x j * pw 10 k ≤ 10000000 := by
  have h1 := pw_in hx j
  have h2 := pw10 (k := k) (by omega)
  have h3 := pw10 h
  refine ⟨Int.mul_nonneg h1.1 (by omega), ?_⟩
  have h4 : pw x j * pw 10 k ≤ pw 10 j * pw 10 k := Int.mul_le_mul_of_nonneg_right h1.2 (by omega)
  rw [← pw_add] at h4
  omega
/-- how many come later than a child -/
def ltc (V : VT) (s : ST) (c : Int) : Int := cnt (fun d => decide (0 ≤ tm V s d ∧ (tm V s c < tm V s d ∨ (tm V s d = tm V s c ∧ c < d)))) (vN V).toNat
/-- of ten to the number of homes: how often the bell goes from its home to another -/
def tT (V : VT) (s : ST) (x a : Int) : Int := (if a = tBell s then pw x (cmr V s).toNat * pw 10 (vN V - cmr V s).toNat else 0) + (if 0 ≤ tm V s a then (10 - x) * pw x (ltc V s a).toNat * pw 10 (vN V - 1 - ltc V s a).toNat else 0)
def sM (s : ST) (t : Nat) (h : Int) : ST := mkS (tDay s + t) h (if t = 0 then tHeld s else 0) (tSick s) (tHad s) (tShut s) (tSoup s)
def mP (V : VT) (s : ST) (x : Int) : Nat → Int → Int
  | 0, a => if a = tBell s then 1 else 0
  | t + 1, a => sumN (fun h => mP V s x t h * tT V (sM s t h) x a) (vN V).toNat
def gI2 (a b : Int) : Int := ((Nat.gcd a.toNat b.toNat : Nat) : Int)
def fMeasles (A : AT) (h n x p : Int) : Int := if (0 ≤ h ∧ h < vN (aV A)) ∧ (0 ≤ n ∧ n ≤ 2) ∧ (0 ≤ x ∧ x ≤ 10) ∧ 0 ≤ p ∧ p ≤ 1 then
    (if p = 0 then mP (aV A) (aS A) x n.toNat h else pw (pw 10 (vN (aV A)).toNat) n.toNat) / gI2 (mP (aV A) (aS A) x n.toNat h) (pw (pw 10 (vN (aV A)).toNat) n.toNat)
  else -1
theorem cnt_lt {p : Int → Bool} {c : Int} : ∀ n : Nat, 0 ≤ c → c < n → p c = false → cnt p n ≤ n - 1 := by
  intro n
  induction n with
  | zero => intro _ h; omega
  | succ n ih =>
    intro h0 h1 hp
    show cnt p n + (if p n = true then 1 else 0) ≤ _
    by_cases e : c = n
    · subst e
      rw [hp, if_neg (by decide)]
      have := (cnt_in p n).2
      omega
    · have := ih h0 (by omega) hp
      split <;> omega
theorem ltc_in (V : VT) (s : ST) {c : Int} (hc : 0 ≤ c ∧ c < vN V) : 0 ≤ ltc V s c ∧ ltc V s c ≤ vN V - 1 := by
  refine ⟨(cnt_in _ _).1, ?_⟩
  have := cnt_lt (p := fun d => decide (0 ≤ tm V s d ∧ (tm V s c < tm V s d ∨ (tm V s d = tm V s c ∧ c < d)))) (c := c) (vN V).toNat hc.1 (by omega) (decide_eq_false (by omega))
  unfold ltc
  omega
theorem tT_in {V : VT} (hW : WFV V) (s : ST) {x a : Int} (hx : 0 ≤ x ∧ x ≤ 10) (ha : 0 ≤ a ∧ a < vN V) : 0 ≤ tT V s x a ∧ tT V s x a ≤ 20000000 := by
  have h7 := hW.2.1
  have hc := cmr_in hW s
  have hc2 : cmr V s ≤ vN V := by
    have := (cnt_in (fun c => decide (0 ≤ tm V s c)) (vN V).toNat).2
    unfold cmr
    omega
  have h1 := pw_mul_in hx (j := (cmr V s).toNat) (k := (vN V - cmr V s).toNat) (by omega)
  have hl := ltc_in V s ha
  have h2 := pw_mul_in hx (j := (ltc V s a).toNat) (k := (vN V - 1 - ltc V s a).toNat) (by omega)
  have h2' : pw x (ltc V s a).toNat * pw 10 (vN V - 1 - ltc V s a).toNat ≤ 1000000 := by
    have q1 := pw_in hx (ltc V s a).toNat
    have q2 := pw10 (k := (vN V - 1 - ltc V s a).toNat) (by omega)
    have q3 : pw x (ltc V s a).toNat * pw 10 (vN V - 1 - ltc V s a).toNat ≤ pw 10 (ltc V s a).toNat * pw 10 (vN V - 1 - ltc V s a).toNat := Int.mul_le_mul_of_nonneg_right q1.2 (by omega)
    rw [← pw_add] at q3
    have key : ∀ k : Fin 7, pw 10 k.val ≤ 1000000 := by decide +kernel
    have := key ⟨(ltc V s a).toNat + (vN V - 1 - ltc V s a).toNat, by omega⟩
    simp only at this
    omega
  have h3 : 0 ≤ (10 - x) * pw x (ltc V s a).toNat * pw 10 (vN V - 1 - ltc V s a).toNat ∧ (10 - x) * pw x (ltc V s a).toNat * pw 10 (vN V - 1 - ltc V s a).toNat ≤ 10000000 := by
    rw [Int.mul_assoc]
    refine ⟨Int.mul_nonneg (by omega) h2.1, ?_⟩
    have : (10 - x) * (pw x (ltc V s a).toNat * pw 10 (vN V - 1 - ltc V s a).toNat) ≤ 10 * 1000000 := Int.mul_le_mul (by omega) h2' h2.1 (by decide)
    omega
  unfold tT
  split <;> split <;> omega
theorem sumN_in {f : Int → Int} {b : Int} : ∀ n : Nat, (∀ h : Int, 0 ≤ h → h < n → 0 ≤ f h ∧ f h ≤ b) → 0 ≤ sumN f n ∧ sumN f n ≤ n * b := by
  intro n
  induction n with
  | zero => intro _; exact ⟨Int.le_refl _, by show (0 : Int) ≤ 0 * b; omega⟩
  | succ n ih =>
    intro h
    have h1 := ih (fun a a1 a2 => h a a1 (by omega))
    have h2 := h n (by omega) (by omega)
    show 0 ≤ sumN f n + f n ∧ sumN f n + f n ≤ ((n + 1 : Nat) : Int) * b
    rw [Int.natCast_add, Int.add_mul]
    have : ((1 : Nat) : Int) * b = b := by rw [show ((1 : Nat) : Int) = 1 from rfl, Int.one_mul]
    rw [this]
    omega
def bdm : Nat → Int
  | 0 => 1
  | 1 => 140000000
  | _ + 2 => 19600000000000000
theorem mP_in {V : VT} (hW : WFV V) (s : ST) {x : Int} (hx : 0 ≤ x ∧ x ≤ 10) : ∀ t : Nat, t ≤ 2 → ∀ a, 0 ≤ a → a < vN V → 0 ≤ mP V s x t a ∧ mP V s x t a ≤ bdm t := by
  have h7 := hW.2.1
  have hn := hW.1
  have step : ∀ (t : Nat) (B : Int), 0 ≤ B → (∀ a, 0 ≤ a → a < vN V → 0 ≤ mP V s x t a ∧ mP V s x t a ≤ B) → ∀ a, 0 ≤ a → a < vN V → 0 ≤ mP V s x (t + 1) a ∧ mP V s x (t + 1) a ≤ 7 * (B * 20000000) := by
    intro t B hB h a a1 a2
    have q := sumN_in (f := fun h => mP V s x t h * tT V (sM s t h) x a) (b := B * 20000000) (vN V).toNat (fun h' h1 h2 => by
      have p1 := h h' h1 (by omega)
      have p2 := tT_in hW (sM s t h') hx ⟨a1, a2⟩
      exact ⟨Int.mul_nonneg p1.1 p2.1, Int.mul_le_mul p1.2 p2.2 p2.1 hB⟩)
    refine ⟨q.1, Int.le_trans q.2 ?_⟩
    exact Int.mul_le_mul_of_nonneg_right (by omega) (by omega)
  intro t ht
  have b0 : ∀ a, 0 ≤ a → a < vN V → 0 ≤ mP V s x 0 a ∧ mP V s x 0 a ≤ 1 := fun a _ _ => by
    show 0 ≤ (if a = tBell s then (1 : Int) else 0) ∧ (if a = tBell s then (1 : Int) else 0) ≤ 1
    split <;> omega
  have b1 := step 0 1 (by decide) b0
  have b2 := step 1 (7 * (1 * 20000000)) (by decide) b1
  match t, ht with
  | 0, _ => exact b0
  | 1, _ => exact b1
  | 2, _ => exact b2
theorem sp_power {a k : Int} {Q : Int64 → Prop} (ha : 0 ≤ a ∧ a ≤ 10) (hk : 0 ≤ k ∧ k ≤ 7) (h : ∀ y : Int64, y.toInt = pw a k.toNat → Q y) : wp_Measles_power a k Q := by
  unfold wp_Measles_power
  refine ⟨(fun y x => 0 ≤ x ∧ x ≤ k ∧ y.toInt = pw a x.toNat), (fun _ x => (k - x).toNat), ⟨by omega, by omega, rfl⟩, ?_⟩
  rintro y1 x1 ⟨g0, g1, g2⟩
  refine ⟨⟨by omega, by omega⟩, fun c => h y1 (by rw [g2]; congr 1; omega), fun c y2 e2 x2 ex => ⟨⟨by omega, by omega, ?_⟩, by dsimp only; omega⟩⟩
  have q1 := pw_in ha x1.toNat
  have q2 := pw10 (k := x1.toNat) (by omega)
  have q3 : 0 ≤ pw a x1.toNat * a := Int.mul_nonneg q1.1 ha.1
  have q4 : pw a x1.toNat * a ≤ 10000000 * 10 := Int.mul_le_mul (by omega) ha.2 ha.1 (by decide)
  rw [e2, L_mul] <;> rw [g2, i2l_I ⟨by omega, by omega⟩]
  · rw [show x2.toNat = x1.toNat + 1 by omega]; rfl
  · exact q3
  · omega
theorem sp_laterThan {σ : MS} {V : VT} {s : ST} {c : Int} {Q : Int → Prop} (hN : NI σ V) (hc : 0 ≤ c ∧ c < vN V) (ht : ∀ d, 0 ≤ d → d < vN V → gI σ 20 d = tv V s d) (hcc : 0 ≤ tm V s c) (h : Q (ltc V s c)) : wp_Noon_laterThan c σ Q := by
  have hW := hN.2.2.1
  have h7 := hW.2.1
  unfold wp_Noon_laterThan
  rw [hN.n]
  let p := fun d => decide (0 ≤ tm V s d ∧ (tm V s c < tm V s d ∨ (tm V s d = tm V s c ∧ c < d)))
  refine ⟨(fun y x => 0 ≤ x ∧ x ≤ vN V ∧ y = cnt p x.toNat), (fun _ x => (vN V - x).toNat), ⟨by omega, by omega, rfl⟩, ?_⟩
  rintro y1 x1 ⟨g0, g1, g2⟩
  have hin := cnt_in p x1.toNat
  have tc : gI σ 20 c = tm V s c := by rw [ht c hc.1 hc.2]; unfold tv; rw [if_neg (by omega)]
  have st1 : ∀ x2, x2 = x1 + 1 → p x1 = true → y1 + 1 = cnt p x2.toNat := by
    intro x2 e hp
    rw [g2, show x2.toNat = x1.toNat + 1 by omega]
    show _ = cnt p x1.toNat + (if p ((x1.toNat : Nat) : Int) = true then 1 else 0)
    rw [show ((x1.toNat : Nat) : Int) = x1 by omega, if_pos hp]
  have st0 : ∀ x2, x2 = x1 + 1 → ¬ p x1 = true → y1 = cnt p x2.toNat := by
    intro x2 e hp
    rw [g2, show x2.toNat = x1.toNat + 1 by omega]
    show _ = cnt p x1.toNat + (if p ((x1.toNat : Nat) : Int) = true then 1 else 0)
    rw [show ((x1.toNat : Nat) : Int) = x1 by omega, if_neg hp, Int.add_zero]
  refine ⟨⟨by omega, by omega⟩, fun c1 => ⟨⟨by omega, by omega⟩, by rw [g2, show x1.toNat = (vN V).toNat by omega]; exact h⟩, fun c1 => ⟨⟨by omega, by omega⟩, ⟨by omega, by omega⟩, ?_⟩⟩
  rw [tc, ht x1 g0 (by omega)]
  have hp : p x1 = true ↔ (0 ≤ tm V s x1 ∧ (tm V s c < tm V s x1 ∨ (tm V s x1 = tm V s c ∧ c < x1))) := decide_eq_true_iff
  have etv : tv V s x1 = if tm V s x1 < 0 then -4 else tm V s x1 := rfl
  rw [etv]
  by_cases z : tm V s x1 < 0
  · rw [if_pos z]
    refine ⟨fun q => by omega, fun _ => ⟨fun _ x5 e5 => ⟨⟨by omega, by omega, st0 x5 e5 (fun w => by have := hp.1 w; omega)⟩, by dsimp only; omega⟩, fun q => by omega⟩⟩
  · rw [if_neg z]
    refine ⟨fun q x3 e3 x4 e4 => ⟨⟨by omega, by omega, by rw [e3]; exact st1 x4 e4 (hp.2 (by omega))⟩, by dsimp only; omega⟩, fun q => ⟨fun q2 x5 e5 => ⟨⟨by omega, by omega, st0 x5 e5 (fun w => by have := hp.1 w; omega)⟩, by dsimp only; omega⟩, fun q2 => ⟨fun q3 x6 e6 => ⟨⟨by omega, by omega, st0 x6 e6 (fun w => by have := hp.1 w; omega)⟩, by dsimp only; omega⟩, fun q3 x7 e7 x8 e8 => ⟨⟨by omega, by omega, by rw [e7]; exact st1 x8 e8 (hp.2 (by omega))⟩, by dsimp only; omega⟩⟩⟩⟩
