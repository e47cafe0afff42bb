/-! ===== the model's years and counts ===== -/
theorem and2 (a b c d : Nat) (hb : b < 2) (hd : d < 2) : (b + 2 * a) &&& (d + 2 * c) = (b &&& d) + 2 * (a &&& c) := by
  have h1 : ((b + 2 * a) &&& (d + 2 * c)) % 2 ^ 1 = (b &&& d) := by
    rw [Nat.and_mod_two_pow, show (b + 2 * a) % 2 ^ 1 = b by omega, show (d + 2 * c) % 2 ^ 1 = d by omega]
  have h2 : ((b + 2 * a) &&& (d + 2 * c)) / 2 ^ 1 = (a &&& c) := by
    rw [Nat.and_div_two_pow, show (b + 2 * a) / 2 ^ 1 = a by omega, show (d + 2 * c) / 2 ^ 1 = c by omega]
  generalize ((b + 2 * a) &&& (d + 2 * c)) = z at *
  generalize (b &&& d) = u at *
  omega
theorem bcn_2 (m : Nat) : ∀ k, bcn m (k + 1) = ((m % 2 : Nat) : Int) + bcn (m / 2) k := by
  intro k
  induction k with
  | zero =>
    show 0 + (if m.testBit 0 = true then (1 : Int) else 0) = _ + 0
    rw [Nat.testBit_zero]
    by_cases h : m % 2 = 1
    · rw [decide_eq_true h, if_pos rfl, h]; rfl
    · rw [decide_eq_false h, if_neg (by decide), show m % 2 = 0 by omega]; rfl
  | succ k ih =>
    show bcn m (k + 1) + (if m.testBit (k + 1) = true then (1 : Int) else 0) = _ + (bcn (m / 2) k + (if (m / 2).testBit k = true then (1 : Int) else 0))
    rw [ih, Nat.testBit_succ]
    omega
theorem low_off : ∀ (k m : Nat), 0 < m → m < 2 ^ k → bcn (m &&& (m - 1)) k = bcn m k - 1 ∧ (m &&& (m - 1)) < m := by
  intro k
  induction k with
  | zero => intro m h1 h2; simp at h2; omega
  | succ k ih =>
    intro m h1 h2
    rw [bcn_2, bcn_2]
    have em : m = m % 2 + 2 * (m / 2) := by omega
    by_cases h : m % 2 = 1
    · have e1 : m - 1 = 0 + 2 * (m / 2) := by omega
      have e2 : m &&& (m - 1) = 2 * (m / 2) := by
        have q := and2 (m / 2) (m % 2) (m / 2) 0 (by omega) (by omega)
        rw [← em, ← e1, Nat.and_zero, Nat.and_self, Nat.zero_add] at q
        exact q
      rw [e2]
      refine ⟨?_, by omega⟩
      rw [show 2 * (m / 2) % 2 = 0 by omega, show 2 * (m / 2) / 2 = m / 2 by omega, h]
      omega
    · have e1 : m - 1 = 1 + 2 * (m / 2 - 1) := by omega
      have hp : m / 2 < 2 ^ k := by rw [Nat.pow_succ] at h2; omega
      obtain ⟨i1, i2⟩ := ih (m / 2) (by omega) hp
      have e2 : m &&& (m - 1) = 2 * (m / 2 &&& (m / 2 - 1)) := by
        have q := and2 (m / 2) (m % 2) (m / 2 - 1) 1 (by omega) (by omega)
        rw [← em, ← e1, show m % 2 = 0 by omega, Nat.zero_and, Nat.zero_add] at q
        exact q
      rw [e2]
      generalize (m / 2 &&& (m / 2 - 1)) = z at *
      refine ⟨?_, by omega⟩
      rw [show 2 * z % 2 = 0 by omega, show 2 * z / 2 = z by omega, i1, show m % 2 = 0 by omega]
      omega
theorem bcn_0 : ∀ k, bcn 0 k = 0 := by
  intro k
  induction k with
  | zero => rfl
  | succ k ih => show bcn 0 k + (if Nat.testBit 0 k = true then (1 : Int) else 0) = 0; rw [ih, Nat.zero_testBit]; rfl
theorem bcn_in (m : Nat) : ∀ k : Nat, 0 ≤ bcn m k ∧ bcn m k ≤ k := by
  intro k
  induction k with
  | zero => exact ⟨Int.le_refl _, Int.le_refl _⟩
  | succ k ih =>
    show 0 ≤ bcn m k + (if m.testBit k = true then (1 : Int) else 0) ∧ bcn m k + (if m.testBit k = true then (1 : Int) else 0) ≤ _
    split <;> omega
theorem sp_bits {z : Int} {k : Nat} {Q : Int → Prop} (hk : k ≤ 30) (h0 : 0 ≤ z) (h1 : z.toNat < 2 ^ k) (h : Q (bcn z.toNat k)) : wp_M_bits z Q := by
  have hk2 : 2 ^ k ≤ 2 ^ 30 := Nat.pow_le_pow_right (by decide) hk
  unfold wp_M_bits
  refine ⟨(fun y x => 0 ≤ x ∧ x.toNat < 2 ^ k ∧ y = bcn z.toNat k - bcn x.toNat k), (fun _ x => x.toNat), ⟨h0, h1, by omega⟩, ?_⟩
  rintro y x ⟨g0, g1, g2⟩
  have b1 := bcn_in z.toNat k
  have b2 := bcn_in x.toNat k
  refine ⟨⟨by omega, by omega⟩, fun c => ⟨⟨by omega, by omega⟩, ?_⟩, fun c x3 e3 x4 e4 => ?_⟩
  · subst c
    rw [g2, show ((0 : Int)).toNat = 0 from rfl, bcn_0, Int.sub_zero]
    exact h
  · obtain ⟨i1, i2⟩ := low_off k x.toNat (by omega) g1
    obtain ⟨m, rfl⟩ := Int.eq_ofNat_of_zero_le g0
    rw [Int.toNat_natCast] at g1 g2 i1 i2
    have e5 : x4 = ((m &&& (m - 1) : Nat) : Int) := by
      rw [e4, show ((m : Int) - 1) = ((m - 1 : Nat) : Int) by omega, iand_nat (by omega) (by omega)]
    rw [e5]
    dsimp only
    rw [Int.toNat_natCast, Int.toNat_natCast]
    refine ⟨⟨by omega, by omega, ?_⟩, i2⟩
    rw [e3, g2, i1]
    omega
theorem bct_bcn {m : Int} (h : 0 ≤ m ∧ m < 128) : bct m = bcn m.toNat 7 := by
  obtain ⟨n, rfl⟩ := Int.eq_ofNat_of_zero_le h.1
  rw [Int.toNat_natCast]
  have key : ∀ k : Nat, k ≤ 7 → cnt (fun c => decide (bitI (n : Int) c = 1)) k = bcn n k := by
    intro k
    induction k with
    | zero => intro _; rfl
    | succ k ih =>
      intro hk
      show cnt _ k + (if decide (bitI (n : Int) ((k : Nat) : Int) = 1) = true then (1 : Int) else 0) = bcn n k + _
      rw [ih (by omega), bitI_nat (by omega) (by omega)]
      cases n.testBit k <;> rfl
  exact key 7 (Nat.le_refl _)
theorem cnt_sum (p : Int → Bool) : ∀ k, cnt p k = sumN (fun i => if p i = true then 1 else 0) k := by
  intro k
  induction k with
  | zero => rfl
  | succ k ih => show cnt p k + _ = sumN _ k + _; rw [ih]
theorem sum49 (c : Nat → Int) : sumN (fun p => if p / 7 < p % 7 then c ((p % 7) * (p % 7 - 1) / 2 + p / 7).toNat else 0) 49 = c 0 + c 1 + c 2 + c 3 + c 4 + c 5 + c 6 + c 7 + c 8 + c 9 + c 10 + c 11 + c 12 + c 13 + c 14 + c 15 + c 16 + c 17 + c 18 + c 19 + c 20 := by
  have e : sumN (fun p => if p / 7 < p % 7 then c ((p % 7) * (p % 7 - 1) / 2 + p / 7).toNat else 0) 49 = 0 + 0 + c 0 + c 1 + c 3 + c 6 + c 10 + c 15 + 0 + 0 + c 2 + c 4 + c 7 + c 11 + c 16 + 0 + 0 + 0 + c 5 + c 8 + c 12 + c 17 + 0 + 0 + 0 + 0 + c 9 + c 13 + c 18 + 0 + 0 + 0 + 0 + 0 + c 14 + c 19 + 0 + 0 + 0 + 0 + 0 + 0 + c 20 + 0 + 0 + 0 + 0 + 0 + 0 + 0 := by rfl
  rw [e]
  omega
theorem sum21 (m : Nat) : bcn m 21 = 0 + (if m.testBit 0 = true then 1 else 0) + (if m.testBit 1 = true then 1 else 0) + (if m.testBit 2 = true then 1 else 0) + (if m.testBit 3 = true then 1 else 0) + (if m.testBit 4 = true then 1 else 0) + (if m.testBit 5 = true then 1 else 0) + (if m.testBit 6 = true then 1 else 0) + (if m.testBit 7 = true then 1 else 0) + (if m.testBit 8 = true then 1 else 0) + (if m.testBit 9 = true then 1 else 0) + (if m.testBit 10 = true then 1 else 0) + (if m.testBit 11 = true then 1 else 0) + (if m.testBit 12 = true then 1 else 0) + (if m.testBit 13 = true then 1 else 0) + (if m.testBit 14 = true then 1 else 0) + (if m.testBit 15 = true then 1 else 0) + (if m.testBit 16 = true then 1 else 0) + (if m.testBit 17 = true then 1 else 0) + (if m.testBit 18 = true then 1 else 0) + (if m.testBit 19 = true then 1 else 0) + (if m.testBit 20 = true then 1 else 0) := rfl
theorem sct_M {σ : MS} (hO : MO (gI σ 13 4)) : sct (stR (gI σ 13)) = bcn (gI σ 13 4).toNat 21 := by
  obtain ⟨m, hm⟩ := Int.eq_ofNat_of_zero_le hO.1
  have hm2 : m < 2097152 := by have := hO.2; omega
  rw [hm, Int.toNat_natCast]
  have e1 : sct (stR (gI σ 13)) = cnt (fun p => shM (m : Int) (p / 7) (p % 7)) 49 := by rw [← hm]; rfl
  rw [e1, cnt_sum]
  have e2 : sumN (fun i => if shM (m : Int) (i / 7) (i % 7) = true then 1 else 0) 49 = sumN (fun p => if p / 7 < p % 7 then (fun k : Nat => if m.testBit k = true then (1 : Int) else 0) ((p % 7) * (p % 7 - 1) / 2 + p / 7).toNat else 0) 49 := by
    refine sumN_cong 49 (fun i i1 i2 => ?_)
    unfold shM
    by_cases q : i / 7 < i % 7
    · rw [if_pos q, decide_eq_true (by omega), Bool.true_and]
      have hp := prM_in (a := i / 7) (b := i % 7) (by omega) (by omega) (by omega)
      have e3 : prM (i / 7) (i % 7) = i % 7 * (i % 7 - 1) / 2 + i / 7 := by unfold prM; rw [show max (i / 7) (i % 7) = i % 7 by omega, show min (i / 7) (i % 7) = i / 7 by omega]
      rw [e3] at hp
      obtain ⟨k, hk⟩ := Int.eq_ofNat_of_zero_le hp.1
      rw [hk, Int.toNat_natCast, bitI_nat (by omega) (by omega)]
      dsimp only
      cases m.testBit k <;> rfl
    · rw [if_neg q, decide_eq_false (by omega), Bool.false_and]
      rfl
  rw [e2]
  refine (sum49 (fun k : Nat => if m.testBit k = true then (1 : Int) else 0)).trans ?_
  rw [sum21]
  omega
theorem sumW (u : Int → Int) (hs : ∀ a b, 0 ≤ a → a < 7 → 0 ≤ b → b < 7 → u (7 * a + b) = u (7 * b + a)) (hz : ∀ a, 0 ≤ a → a < 7 → u (7 * a + a) = 0) : sumN u 49 = 2 * sumN (fun p => if p / 7 < p % 7 then u p else 0) 49 := by
  have e1 : sumN u 49 = 0 + u 0 + u 1 + u 2 + u 3 + u 4 + u 5 + u 6 + u 7 + u 8 + u 9 + u 10 + u 11 + u 12 + u 13 + u 14 + u 15 + u 16 + u 17 + u 18 + u 19 + u 20 + u 21 + u 22 + u 23 + u 24 + u 25 + u 26 + u 27 + u 28 + u 29 + u 30 + u 31 + u 32 + u 33 + u 34 + u 35 + u 36 + u 37 + u 38 + u 39 + u 40 + u 41 + u 42 + u 43 + u 44 + u 45 + u 46 + u 47 + u 48 := by rfl
  have e2 : sumN (fun p => if p / 7 < p % 7 then u p else 0) 49 = 0 + 0 + u 1 + u 2 + u 3 + u 4 + u 5 + u 6 + 0 + 0 + u 9 + u 10 + u 11 + u 12 + u 13 + 0 + 0 + 0 + u 17 + u 18 + u 19 + u 20 + 0 + 0 + 0 + 0 + u 25 + u 26 + u 27 + 0 + 0 + 0 + 0 + 0 + u 33 + u 34 + 0 + 0 + 0 + 0 + 0 + 0 + u 41 + 0 + 0 + 0 + 0 + 0 + 0 + 0 := by rfl
  rw [e1, e2]
  have z0 : u 0 = 0 := hz 0 (by decide) (by decide)
  have s01 : u 1 = u 7 := hs 0 1 (by decide) (by decide) (by decide) (by decide)
  have s02 : u 2 = u 14 := hs 0 2 (by decide) (by decide) (by decide) (by decide)
  have s03 : u 3 = u 21 := hs 0 3 (by decide) (by decide) (by decide) (by decide)
  have s04 : u 4 = u 28 := hs 0 4 (by decide) (by decide) (by decide) (by decide)
  have s05 : u 5 = u 35 := hs 0 5 (by decide) (by decide) (by decide) (by decide)
  have s06 : u 6 = u 42 := hs 0 6 (by decide) (by decide) (by decide) (by decide)
  have z1 : u 8 = 0 := hz 1 (by decide) (by decide)
  have s12 : u 9 = u 15 := hs 1 2 (by decide) (by decide) (by decide) (by decide)
  have s13 : u 10 = u 22 := hs 1 3 (by decide) (by decide) (by decide) (by decide)
  have s14 : u 11 = u 29 := hs 1 4 (by decide) (by decide) (by decide) (by decide)
  have s15 : u 12 = u 36 := hs 1 5 (by decide) (by decide) (by decide) (by decide)
  have s16 : u 13 = u 43 := hs 1 6 (by decide) (by decide) (by decide) (by decide)
  have z2 : u 16 = 0 := hz 2 (by decide) (by decide)
  have s23 : u 17 = u 23 := hs 2 3 (by decide) (by decide) (by decide) (by decide)
  have s24 : u 18 = u 30 := hs 2 4 (by decide) (by decide) (by decide) (by decide)
  have s25 : u 19 = u 37 := hs 2 5 (by decide) (by decide) (by decide) (by decide)
  have s26 : u 20 = u 44 := hs 2 6 (by decide) (by decide) (by decide) (by decide)
  have z3 : u 24 = 0 := hz 3 (by decide) (by decide)
  have s34 : u 25 = u 31 := hs 3 4 (by decide) (by decide) (by decide) (by decide)
  have s35 : u 26 = u 38 := hs 3 5 (by decide) (by decide) (by decide) (by decide)
  have s36 : u 27 = u 45 := hs 3 6 (by decide) (by decide) (by decide) (by decide)
  have z4 : u 32 = 0 := hz 4 (by decide) (by decide)
  have s45 : u 33 = u 39 := hs 4 5 (by decide) (by decide) (by decide) (by decide)
  have s46 : u 34 = u 46 := hs 4 6 (by decide) (by decide) (by decide) (by decide)
  have z5 : u 40 = 0 := hz 5 (by decide) (by decide)
  have s56 : u 41 = u 47 := hs 5 6 (by decide) (by decide) (by decide) (by decide)
  have z6 : u 48 = 0 := hz 6 (by decide) (by decide)
  omega
theorem sp_wayMany {σ : MS} {A : AT} {B : Int} {Q : Int → Prop} (hC : MI σ A) (hW : WF B A) (h : Q (wct (aV A))) : wp_M_wayMany σ Q := by
  have hn := hW.n
  have hV := hC.1.2
  let p := fun p : Int => decide (0 < gI σ 10 p)
  have hw : ∀ a b, 0 ≤ a → a < 7 → 0 ≤ b → b < 7 → ¬ a = b → p (7 * a + b) = decide (0 < vWay (aV A) a b) := by
    intro a b a1 a2 b1 b2 hab
    show decide _ = decide _
    by_cases q : a < vN (aV A) ∧ b < vN (aV A)
    · rw [hC.N.w ⟨a1, q.1⟩ ⟨b1, q.2⟩ hab]
    · have e1 : gI σ 10 (7 * a + b) = 0 := Classical.byContradiction (fun z => by
        have := hV (7 * a + b) (by omega) (by omega) z
        omega)
      have e2 : vWay (aV A) a b = 0 := by
        rw [← hC.N.1]
        have h3 := hC.n
        show (if _ then _ else _) = _
        rw [if_neg (by omega)]
      rw [e1, e2]
  have key : cnt p 49 = 2 * wct (aV A) := by
    have e1 : wct (aV A) = sumN (fun q => if q / 7 < q % 7 then (if p q = true then 1 else 0) else 0) 49 := by
      unfold wct
      rw [cnt_sum]
      refine sumN_cong 49 (fun i i1 i2 => ?_)
      by_cases q : i / 7 < i % 7
      · have := hw (i / 7) (i % 7) (by omega) (by omega) (by omega) (by omega) (by omega)
        rw [show 7 * (i / 7) + i % 7 = i by omega] at this
        rw [if_pos q, this]
        by_cases z : 0 < vWay (aV A) (i / 7) (i % 7)
        · rw [decide_eq_true ⟨q, z⟩, decide_eq_true z]
        · rw [decide_eq_false (fun w => z w.2), decide_eq_false z]
      · rw [if_neg q, decide_eq_false (fun w => q w.1), if_neg (by decide)]
    rw [e1, cnt_sum]
    refine sumW (fun q => if p q = true then 1 else 0) (fun a b a1 a2 b1 b2 => ?_) (fun a a1 a2 => ?_)
    · by_cases e : a = b
      · rw [e]
      · rw [hw a b a1 a2 b1 b2 e, hw b a b1 b2 a1 a2 (fun z => e z.symm), (hW.1.2.2.2.2.2.2.1 a b).2.2]
    · rw [if_neg]
      intro z
      have z' : 0 < gI σ 10 (7 * a + a) := of_decide_eq_true z
      have := hV (7 * a + a) (by omega) (by omega) (by omega)
      omega
  unfold wp_M_wayMany
  refine ⟨(fun y x => 0 ≤ x ∧ x ≤ 49 ∧ y = cnt p x.toNat), (fun _ x => (49 - x).toNat), ⟨by omega, by omega, rfl⟩, ?_⟩
  rintro y1 x1 ⟨g0, g1, g2⟩
  have hin := cnt_in p x1.toNat
  refine ⟨⟨by omega, by omega⟩, fun c => ⟨⟨by omega, by omega⟩, ?_⟩, fun c => ⟨⟨g0, by omega⟩, fun c2 => ?_, fun c2 => ?_⟩⟩
  · rw [g2, show x1.toNat = 49 by omega, key, show 2 * wct (aV A) / 2 = wct (aV A) by omega]
    exact h
  · intro x3 e3 x4 e4
    refine ⟨⟨by omega, by omega, ?_⟩, by dsimp only; omega⟩
    rw [e3, g2, show x4.toNat = x1.toNat + 1 by omega]
    show _ = cnt p x1.toNat + (if decide (0 < gI σ 10 ((x1.toNat : Nat) : Int)) = true then 1 else 0)
    rw [show ((x1.toNat : Nat) : Int) = x1 by omega, decide_eq_false (by omega), if_neg (by decide)]
  · intro x3 e3 x4 e4
    refine ⟨⟨by omega, by omega, ?_⟩, by dsimp only; omega⟩
    rw [e3, g2, show x4.toNat = x1.toNat + 1 by omega]
    show _ = cnt p x1.toNat + (if decide (0 < gI σ 10 ((x1.toNat : Nat) : Int)) = true then 1 else 0)
    rw [show ((x1.toNat : Nat) : Int) = x1 by omega, decide_eq_true (by omega), if_pos rfl]
theorem sp_Msoups {r : Nat} {σ : MS} {B n : Int} {Q : Int → Prop} (hB : 0 ≤ B ∧ B ≤ 900000) (hst : STB B n (stR (gI σ r))) (h : Rng (sps (stR (gI σ r)) 7) → (0 ≤ sps (stR (gI σ r)) 7 ∧ sps (stR (gI σ r)) 7 ≤ 49 * B) → Q (sps (stR (gI σ r)) 7)) : wp_M_soups r σ Q := by
  obtain ⟨-, -, -, -, h5, -⟩ := hst
  unfold wp_M_soups
  refine ⟨(fun y x => 0 ≤ x ∧ x ≤ 7 ∧ 0 ≤ y ∧ y ≤ 7 * B * x ∧ y = sps (stR (gI σ r)) x.toNat), (fun _ x => (7 - x).toNat), ⟨by omega, by omega, by omega, by omega, rfl⟩, ?_⟩
  rintro y1 x1 ⟨g0, g1, g2, g3, g4⟩
  refine ⟨⟨by omega, by omega⟩, fun c => ?_, fun c => ⟨⟨by omega, by omega⟩, ?_⟩⟩
  · have e : x1 = 7 := by omega
    subst e
    have e7 : y1 = sps (stR (gI σ r)) 7 := g4
    rw [e7] at g2 g3 ⊢
    exact ⟨⟨by omega, by omega⟩, h ⟨by omega, by omega⟩ ⟨g2, by omega⟩⟩
  · intro x3 e3 x4 e4
    have q := h5 x1
    have e : tSoup (stR (gI σ r)) x1 = gI σ r (6 + x1) := by
      show (if _ then _ else _) = _
      rw [if_pos ⟨g0, by omega⟩]
    rw [e] at q
    have hm : 7 * B * (x1 + 1) = 7 * B * x1 + 7 * B := by rw [Int.mul_add, Int.mul_one]
    refine ⟨⟨by omega, by omega, by omega, by rw [e4, hm]; omega, ?_⟩, by dsimp only; omega⟩
    rw [e3, g4, ← e, show x4.toNat = x1.toNat + 1 by omega]
    show _ = sps (stR (gI σ r)) x1.toNat + tSoup (stR (gI σ r)) ((x1.toNat : Nat) : Int)
    rw [show ((x1.toNat : Nat) : Int) = x1 by omega]
theorem sp_M_count {σ : MS} {A : AT} {B w : Int} {Q : Int → Prop} (hC : MI σ A) (hW : WF B A) (hB : 0 ≤ B ∧ B ≤ 900000) (h : Q (fCount A w)) : wp_M_count w σ Q := by
  obtain ⟨s1, s2, s3, s4, s5, s6⟩ := hC.s
  unfold wp_M_count
  unfold fCount at h
  refine ⟨fun e => ?_, fun e => ?_, fun e => ?_, fun e => ?_, fun e => ?_, fun e => ?_, fun e => ?_, fun e => ?_, fun e => ?_, fun e => ?_, fun e => ?_, fun e0 e1 e2 e3 e4 e5 e6 e7 e8 e9 e10 => ?_⟩
  · rw [if_pos e] at h; rw [hC.n]; exact h
  · rw [if_neg (by omega), if_pos e] at h; exact sp_wayMany hC hW h
  · rw [if_neg (by omega), if_neg (by omega), if_pos e] at h
    have hO := hC.2.1.2
    refine sp_bits (k := 21) (by decide) hO.1 (by have := hO.2; omega) ?_
    rw [← hC.2.1.1, sct_M hO] at h
    exact h
  · rw [if_neg (by omega), if_neg (by omega), if_neg (by omega), if_pos e] at h; rw [s1]; exact h
  · rw [if_neg (by omega), if_neg (by omega), if_neg (by omega), if_neg (by omega), if_pos e] at h; rw [s2]; exact h
  · rw [if_neg (by omega), if_neg (by omega), if_neg (by omega), if_neg (by omega), if_neg (by omega), if_pos e] at h
    have hk := hW.2.1.2.2.2.2.2.2.1
    rw [s4]
    refine sp_bits (k := 7) (by decide) hk.1 (by omega) ?_
    rw [bct_bcn hk] at h
    exact h
  · rw [if_neg (by omega), if_neg (by omega), if_neg (by omega), if_neg (by omega), if_neg (by omega), if_neg (by omega), if_pos e] at h
    refine sp_Msoups (r := 13) hB (hC.st hW) (fun _ _ => ?_)
    rw [hC.2.1.1]
    exact h
  · rw [if_neg (by omega), if_neg (by omega), if_neg (by omega), if_neg (by omega), if_neg (by omega), if_neg (by omega), if_neg (by omega), if_pos e] at h
    rw [hC.2.2.2.2.1.1]; exact h
  · rw [if_neg (by omega), if_neg (by omega), if_neg (by omega), if_neg (by omega), if_neg (by omega), if_neg (by omega), if_neg (by omega), if_neg (by omega), if_pos e] at h
    rw [hC.2.2.1.2.1]; exact h
  · rw [if_neg (by omega), if_neg (by omega), if_neg (by omega), if_neg (by omega), if_neg (by omega), if_neg (by omega), if_neg (by omega), if_neg (by omega), if_neg (by omega), if_pos e] at h
    rw [hC.2.2.2.1.2.1]; exact h
  · rw [if_neg (by omega), if_neg (by omega), if_neg (by omega), if_neg (by omega), if_neg (by omega), if_neg (by omega), if_neg (by omega), if_neg (by omega), if_neg (by omega), if_neg (by omega), if_pos e] at h
    rw [hC.2.2.2.2.2.1]; exact h
  · rw [if_neg e0, if_neg e1, if_neg e2, if_neg e3, if_neg e4, if_neg e5, if_neg e6, if_neg e7, if_neg e8, if_neg e9, if_neg e10] at h
    exact h
theorem draw_L {z k : Int} {y1 : Int64} (hz : 0 ≤ z ∧ z ≤ 9999) (hk : 0 ≤ k ∧ k < 60) (e1 : y1 = ((((7919 : Int64) * (i2l z)) + ((6151 : Int64) * (i2l k))) + (1 : Int64))) :
    l2i ((lrem (y1 * y1) (65521 : Int64)) / (2 : Int64)) = (7919 * z + 6151 * k + 1) * (7919 * z + 6151 * k + 1) % 65521 / 2 := by
  have c1 : ((7919 : Int64)).toInt = 7919 := rfl
  have c2 : ((6151 : Int64)).toInt = 6151 := rfl
  have c3 : ((1 : Int64)).toInt = 1 := rfl
  have c4 : ((65521 : Int64)).toInt = 65521 := rfl
  have c5 : ((2 : Int64)).toInt = 2 := rfl
  have z1 := i2l_I (x := z) ⟨by omega, by omega⟩
  have k1 := i2l_I (x := k) ⟨by omega, by omega⟩
  have a1 : ((7919 : Int64) * i2l z).toInt = 7919 * z := by rw [L_mul] <;> rw [c1, z1] <;> omega
  have a2 : ((6151 : Int64) * i2l k).toInt = 6151 * k := by rw [L_mul] <;> rw [c2, k1] <;> omega
  have a3 : ((7919 : Int64) * i2l z + (6151 : Int64) * i2l k).toInt = 7919 * z + 6151 * k := by rw [L_add] <;> rw [a1, a2] <;> omega
  have a4 : y1.toInt = 7919 * z + 6151 * k + 1 := by rw [e1, L_add] <;> rw [a3, c3] <;> omega
  have b0 : 0 ≤ y1.toInt := by omega
  have b1 : y1.toInt ≤ 79999999 := by omega
  have b2 : 0 ≤ y1.toInt * y1.toInt := Int.mul_nonneg b0 b0
  have b3 : y1.toInt * y1.toInt ≤ 79999999 * 79999999 := Int.mul_le_mul b1 b1 b0 (by decide)
  have a5 : (y1 * y1).toInt = y1.toInt * y1.toInt := L_mul b2 (by omega)
  have a6 : (lrem (y1 * y1) 65521).toInt = y1.toInt * y1.toInt % 65521 := by rw [L_rem (by rw [a5]; exact b2) (by decide), a5, c4]
  have a7 : (lrem (y1 * y1) 65521 / 2).toInt = y1.toInt * y1.toInt % 65521 / 2 := by
    rw [L_div (by rw [a6]; omega) (by decide), a6, c5]
  rw [l2i_I (by rw [a7]; exact ⟨by omega, by omega⟩), a7, a4]
theorem sp_M_year {σ : MS} {A : AT} {B z n w : Int} {Q : Int → MS → Prop} (hC : MI σ A) (hW : WF B A) (hB : 0 ≤ B ∧ B ≤ 800000) (h : ∀ σ', MI σ' A → Q (fYear A z n w) σ') : wp_M_year z n w σ Q := by
  have hn := hW.n
  unfold wp_M_year
  unfold fYear at h
  refine sp_Min (fun cz => ⟨fun q => absurd q (by decide), fun _ => sp_Min (fun cn => ⟨fun q => absurd q (by decide), fun _ => sp_Min (fun cw => ⟨fun _ => ?_, fun q => absurd q (by decide)⟩) (fun cw => ⟨fun q => absurd rfl q, fun _ => ?_⟩)⟩) (fun cn => ⟨fun _ => ?_, fun q => absurd rfl q⟩)⟩) (fun cz => ⟨fun _ => ?_, fun q => absurd rfl q⟩)
  · rw [if_pos ⟨cz, cn, cw⟩] at h
    refine sp_copyNow hC (fun s1 hC1 hS1 _ => ?_)
    refine ⟨(fun x s => 0 ≤ x ∧ x ≤ n ∧ MI s A ∧ stR (gI s 14) = yrs (aV A) z (aS A) x.toNat), (fun x _ => (n - x).toNat), ⟨by omega, by omega, hC1, hS1⟩, ?_⟩
    rintro x1 s2 ⟨g0, g1, hC2, hS2⟩
    have hin := yrs_in (z := z) hW.1 hW.2.1 x1.toNat
    refine ⟨⟨by omega, by omega⟩, fun d => ?_, fun d => ?_⟩
    · have e : x1.toNat = n.toNat := by omega
      rw [e] at hS2 hin
      refine ⟨fun q => ?_, fun q => ?_⟩
      · rw [if_neg q] at h
        refine sp_Msoups (r := 14) (B := B + n.toNat) (n := vN (aV A)) (by omega) (by rw [hS2]; exact hin) (fun r1 b1 => ?_)
        refine sp_Msoups (r := 13) (B := B) (n := vN (aV A)) (by omega) (hC2.st hW) (fun r2 b2 => ?_)
        rw [hS2] at b1 ⊢
        rw [hC2.2.1.1] at b2 ⊢
        exact ⟨⟨by omega, by omega⟩, h s2 hC2⟩
      · rw [if_pos q] at h
        have v : gI s2 14 0 = tBell (stR (gI s2 14)) := rfl
        rw [v, hS2]
        exact h s2 hC2
    · intro y1 e1
      have hx := draw_L cz ⟨g0, by omega⟩ e1
      have ed : drw (aV A) z x1 = if ((7919 * z + 6151 * x1 + 1) * (7919 * z + 6151 * x1 + 1) % 65521 / 2) / 8 % 2 = 0 then ishl 1 (((7919 * z + 6151 * x1 + 1) * (7919 * z + 6151 * x1 + 1) % 65521 / 2) % vN (aV A)) else 0 := rfl
      rw [hx]
      generalize (7919 * z + 6151 * x1 + 1) * (7919 * z + 6151 * x1 + 1) = sq at *
      intro x2 e2
      have v2 : gI s2 14 2 = tHeld (yrs (aV A) z (aS A) x1.toNat) := by rw [← hS2]; rfl
      rw [← e2] at ed
      have fin : ∀ s3, s3 = sI s2 14 2 (ior (tHeld (yrs (aV A) z (aS A) x1.toNat)) (drw (aV A) z x1)) → wp_M_goesBy 14 s3 (fun s4 : MS => ∀ x3 : Int, x3 = x1 + 1 → (0 ≤ x3 ∧ x3 ≤ n ∧ MI s4 A ∧ stR (gI s4 14) = yrs (aV A) z (aS A) x3.toNat) ∧ (n - x3).toNat < (n - x1).toNat) := by
        intro s3 e3
        have hC3 : MI s3 A := by rw [e3]; exact hC2.t14 _ _
        have hS3 : stR (gI s3 14) = tSetHeld (yrs (aV A) z (aS A) x1.toNat) (ior (tHeld (yrs (aV A) z (aS A) x1.toNat)) (drw (aV A) z x1)) := (stR_set hS2 (sI14 e3)).2 rfl
        refine sp_tgo (B := B + x1.toNat) hC3 (by omega) (by rw [hS3]; exact yst hn hin) (fun s4 hC4 hS4 _ => ?_)
        intro x3 e3
        refine ⟨⟨by omega, by omega, hC4, ?_⟩, by omega⟩
        rw [hS4, hS3, show x3.toNat = x1.toNat + 1 by omega]
        show _ = gby _ (tSetHeld _ (ior _ (drw _ z ((x1.toNat : Nat) : Int))))
        rw [show ((x1.toNat : Nat) : Int) = x1 by omega]
      rw [v2, hC2.n]
      refine ⟨⟨by omega, by omega⟩, ⟨by omega, by omega⟩, fun c => ?_, fun c => ⟨⟨by omega, by omega⟩, ⟨by omega, by omega⟩, ?_⟩⟩
      · rw [if_neg c] at ed
        exact fun s3 e3 => fin s3 (by rw [ed]; exact e3)
      · rw [if_pos c] at ed
        exact fun s3 e3 => fin s3 (by rw [ed]; exact e3)
  · rw [if_neg (fun q => cw q.2.2)] at h; exact h σ hC
  · rw [if_neg (fun q => cn q.2.1)] at h; exact h σ hC
  · rw [if_neg (fun q => cz q.1)] at h; exact h σ hC
