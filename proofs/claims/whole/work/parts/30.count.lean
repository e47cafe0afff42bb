/-! ===== longs as ints; the class's years and counts ===== -/
theorem bm {x : Int} (h : 0 ≤ x) (h2 : x < 9223372036854775808) : x.bmod (2 ^ 64) = x := by
  rw [Int.bmod_eq_of_le] <;> omega
theorem L_add {a b : Int64} (h : 0 ≤ a.toInt + b.toInt) (h2 : a.toInt + b.toInt < 9223372036854775808) : (a + b).toInt = a.toInt + b.toInt := by
  rw [Int64.toInt_add, bm h h2]
theorem L_sub {a b : Int64} (h : 0 ≤ a.toInt - b.toInt) (h2 : a.toInt - b.toInt < 9223372036854775808) : (a - b).toInt = a.toInt - b.toInt := by
  rw [Int64.toInt_sub, bm h h2]
theorem L_mul {a b : Int64} (h : 0 ≤ a.toInt * b.toInt) (h2 : a.toInt * b.toInt < 9223372036854775808) : (a * b).toInt = a.toInt * b.toInt := by
  rw [Int64.toInt_mul, bm h h2]
theorem L_div {a b : Int64} (h : 0 ≤ a.toInt) (h2 : 0 < b.toInt) : (a / b).toInt = a.toInt / b.toInt := by
  have h3 : a.toInt < 9223372036854775808 := Int64.toInt_lt a
  have h4 : 0 ≤ a.toInt / b.toInt := Int.ediv_nonneg h (by omega)
  have h5 : a.toInt / b.toInt ≤ a.toInt := Int.ediv_le_self _ h
  rw [Int64.toInt_div, Int.tdiv_eq_ediv_of_nonneg h, bm h4 (by omega)]
theorem L_rem {a b : Int64} (h : 0 ≤ a.toInt) (h2 : 0 < b.toInt) : (lrem a b).toInt = a.toInt % b.toInt := by
  have h3 : a.toInt < 9223372036854775808 := Int64.toInt_lt a
  have hd := L_div h h2
  have h4 : 0 ≤ a.toInt / b.toInt := Int.ediv_nonneg h (by omega)
  have h5 : a.toInt / b.toInt * b.toInt ≤ a.toInt := Int.ediv_mul_le _ (by omega)
  have h6 : 0 ≤ a.toInt / b.toInt * b.toInt := Int.mul_nonneg h4 (by omega)
  have hm : (a / b * b).toInt = a.toInt / b.toInt * b.toInt := by
    rw [L_mul (by rw [hd]; exact h6) (by rw [hd]; omega), hd]
  unfold lrem
  rw [L_sub (by rw [hm]; omega) (by rw [hm]; omega), hm, Int.emod_def, Int.mul_comm]
theorem i2l_I {x : Int} (h : Rng x) : (i2l x).toInt = x := by
  unfold i2l
  rw [Int32.toInt_toInt64, iI_toInt h]
theorem l2i_I {x : Int64} (h : Rng x.toInt) : l2i x = x.toInt := by
  unfold l2i
  rw [Int64.toInt_toInt32]
  have := h.1
  have := h.2
  rw [Int.bmod_eq_of_le] <;> omega
theorem sp_drawn {σ : MS} {V : VT} {z k : Int} {Q : Int → Prop} (hn : gI σ (gR σ 0 0) 5 = vN V) (hW : 1 ≤ vN V ∧ vN V ≤ 7) (hz : 0 ≤ z ∧ z ≤ 9999) (hk : 0 ≤ k ∧ k < 60) (h : Q (drw V z k)) : wp_B_drawnOn z k σ Q := by
  unfold wp_B_drawnOn
  rw [hn]
  intro y1 e1 y2 e2
  have c1 : ((7919 : Int64)).toInt = 7919 := rfl
  have c2 : ((6151 : Int64)).toInt = 6151 := rfl
  have c3 : ((1 : Int64)).toInt = 1 := rfl
  have c4 : ((65521 : Int64)).toInt = 65521 := rfl
  have c5 : ((2 : Int64)).toInt = 2 := rfl
  have c6 : ((8 : Int64)).toInt = 8 := rfl
  have z1 := i2l_I (x := z) ⟨by omega, by omega⟩
  have k1 := i2l_I (x := k) ⟨by omega, by omega⟩
  have n1 := i2l_I (x := vN V) ⟨by omega, by omega⟩
  have a1 : ((7919 : Int64) * i2l z).toInt = 7919 * z := by rw [L_mul] <;> rw [c1, z1] <;> omega
  have a2 : ((6151 : Int64) * i2l k).toInt = 6151 * k := by rw [L_mul] <;> rw [c2, k1] <;> omega
  have a3 : ((7919 : Int64) * i2l z + (6151 : Int64) * i2l k).toInt = 7919 * z + 6151 * k := by rw [L_add] <;> rw [a1, a2] <;> omega
  have a4 : y1.toInt = 7919 * z + 6151 * k + 1 := by rw [e1, L_add] <;> rw [a3, c3] <;> omega
  have b0 : 0 ≤ y1.toInt := by omega
  have b1 : y1.toInt ≤ 79999999 := by omega
  have b2 : 0 ≤ y1.toInt * y1.toInt := Int.mul_nonneg b0 b0
  have b3 : y1.toInt * y1.toInt ≤ 79999999 * 79999999 := Int.mul_le_mul b1 b1 b0 (by decide)
  have a5 : (y1 * y1).toInt = y1.toInt * y1.toInt := L_mul b2 (by omega)
  have a6 : (lrem (y1 * y1) 65521).toInt = y1.toInt * y1.toInt % 65521 := by rw [L_rem (by rw [a5]; exact b2) (by decide), a5, c4]
  have a7 : y2.toInt = y1.toInt * y1.toInt % 65521 / 2 := by
    rw [e2, L_div (by rw [a6]; omega) (by decide), a6, c5]
  have b4 : 0 ≤ y2.toInt ∧ y2.toInt < 65521 := by rw [a7]; omega
  have a8 : (y2 / 8).toInt = y2.toInt / 8 := by rw [L_div b4.1 (by decide), c6]
  have a9 : (lrem (y2 / 8) 2).toInt = y2.toInt / 8 % 2 := by rw [L_rem (by rw [a8]; omega) (by decide), a8, c5]
  have a10 : (lrem y2 (i2l (vN V))).toInt = y2.toInt % vN V := by rw [L_rem b4.1 (by rw [n1]; omega), n1]
  have m1 : 0 ≤ y2.toInt % vN V := Int.emod_nonneg _ (by omega)
  have m2 : y2.toInt % vN V < vN V := Int.emod_lt_of_pos _ (by omega)
  have a11 : l2i (lrem y2 (i2l (vN V))) = y2.toInt % vN V := by rw [l2i_I (by rw [a10]; exact ⟨by omega, by omega⟩), a10]
  unfold drw at h
  rw [← a4, ← a7] at h
  have iff : lrem (y2 / 8) 2 = 0 ↔ y2.toInt / 8 % 2 = 0 := by
    rw [← Int64.toInt_inj, a9]
    rfl
  refine ⟨fun c => ?_, fun c => ⟨fun _ => ⟨fun q => ?_, ?_⟩, fun q => by omega⟩⟩
  · rw [if_neg (fun q => c (iff.2 q))] at h; exact h
  · rw [← Int64.toInt_inj, n1] at q
    have : vN V = 0 := q
    omega
  · rw [if_pos (iff.1 c)] at h
    rw [a11]
    exact h
theorem sp_soups {s : Nat} {σ : MS} {B n : Int} {Q : Int → Prop} (hB : 0 ≤ B ∧ B ≤ 900000) (hst : STB B n (stC σ s)) (h : Rng (sps (stC σ s) 7) → (0 ≤ sps (stC σ s) 7 ∧ sps (stC σ s) 7 ≤ 49 * B) → Q (sps (stC σ s) 7)) : wp_Standing_soupsInAll s σ Q := by
  obtain ⟨-, -, -, -, h5, -⟩ := hst
  unfold wp_Standing_soupsInAll
  refine ⟨(fun y x => 0 ≤ x ∧ x ≤ 7 ∧ 0 ≤ y ∧ y ≤ 7 * B * x ∧ y = sps (stC σ s) x.toNat), (fun _ x => (7 - x).toNat), ⟨by omega, by omega, by omega, by omega, rfl⟩, ?_⟩
  rintro y1 x1 ⟨g0, g1, g2, g3, g4⟩
  refine ⟨⟨by omega, by omega⟩, fun c => ?_, fun c => ⟨⟨g0, by omega⟩, ?_⟩⟩
  · have e : x1 = 7 := by omega
    subst e
    refine ⟨⟨by omega, by omega⟩, ?_⟩
    have e7 : y1 = sps (stC σ s) 7 := g4
    rw [e7] at g2 g3 ⊢
    exact h ⟨by omega, by omega⟩ ⟨g2, by omega⟩
  · intro x3 e3 x4 e4
    have q := h5 x1
    have e : tSoup (stC σ s) x1 = gI σ (s + 1) x1 := by
      show (if _ then _ else _) = _
      rw [if_pos ⟨g0, by omega⟩]
    rw [e] at q
    have hm : 7 * B * (x1 + 1) = 7 * B * x1 + 7 * B := by rw [Int.mul_add, Int.mul_one]
    refine ⟨⟨by omega, by omega, by omega, by rw [e4, hm]; omega, ?_⟩, by dsimp only; omega⟩
    rw [e3, g4, ← e, show x4.toNat = x1.toNat + 1 by omega]
    show _ = sps (stC σ s) x1.toNat + tSoup (stC σ s) ((x1.toNat : Nat) : Int)
    rw [show ((x1.toNat : Nat) : Int) = x1 by omega]
theorem drw_in {V : VT} {z k : Int} (hW : 1 ≤ vN V ∧ vN V ≤ 7) : drw V z k = 0 ∨ ∃ c, (0 ≤ c ∧ c < 7) ∧ drw V z k = ishl 1 c := by
  unfold drw
  split
  · refine Or.inr ⟨_, ⟨Int.emod_nonneg _ (by omega), ?_⟩, rfl⟩
    exact Int.lt_of_lt_of_le (Int.emod_lt_of_pos _ (by omega)) hW.2
  · exact Or.inl rfl
theorem ior_0 {a : Int} (h : 0 ≤ a ∧ a < 128) : ior a 0 = a := by
  obtain ⟨n, rfl⟩ := Int.eq_ofNat_of_zero_le h.1
  have := ior_nat (a := n) (b := 0) (by omega) (by decide)
  rw [Nat.or_zero] at this
  exact this
theorem yst {V : VT} {B n : Int} {s : ST} {z k : Int} (hW : 1 ≤ vN V ∧ vN V ≤ 7) (h : STB B n s) : STB B n (tSetHeld s (ior (tHeld s) (drw V z k))) := by
  obtain ⟨t1, t2, t3, t4, t5, t6, t7⟩ := h
  refine ⟨t1, t2, t3, t4, t5, ?_, t7⟩
  show 0 ≤ ior (tHeld s) (drw V z k) ∧ _
  rcases drw_in (z := z) (k := k) hW with e | ⟨c, c1, e⟩
  · rw [e, ior_0 t6]; exact t6
  · rw [e]; exact ior_in (k := 7) (by decide) t6 c1
theorem yrs_in {V : VT} (hW : WFV V) {B : Int} {s : ST} {z : Int} (h : STB B (vN V) s) : ∀ k : Nat, STB (B + k) (vN V) (yrs V z s k) := by
  intro k
  induction k with
  | zero => simpa [yrs] using h
  | succ k ih =>
    have := gby_in hW (yst (V := V) (z := z) (k := k) ⟨hW.1, hW.2.1⟩ ih)
    rw [show B + ((k + 1 : Nat) : Int) = B + k + 1 by omega]
    exact this
theorem sp_B_year {σ : MS} {A : AT} {B z n w : Int} {Q : Int → MS → Prop} (hC : CI σ A) (hW : WF B A) (hB : 0 ≤ B ∧ B ≤ 800000) (h : ∀ σ', CI σ' A → Q (fYear A z n w) σ') : wp_B_year z n w σ Q := by
  have hn := hW.n
  unfold wp_B_year
  unfold fYear at h
  refine ⟨fun c => ?_, fun c => ⟨fun c2 => ?_, fun c2 => ⟨fun c3 => ?_, fun c3 => ⟨fun c4 => ?_, fun c4 => ⟨fun c5 => ?_, fun c5 => ⟨fun c6 => ?_, fun c6 => ?_⟩⟩⟩⟩⟩⟩
  · rw [if_neg (by omega)] at h; exact h σ hC
  · rw [if_neg (by omega)] at h; exact h σ hC
  · rw [if_neg (by omega)] at h; exact h σ hC
  · rw [if_neg (by omega)] at h; exact h σ hC
  · rw [if_neg (by omega)] at h; exact h σ hC
  · rw [if_pos ⟨⟨by omega, by omega⟩, ⟨by omega, by omega⟩, by omega, c6⟩] at h
    refine sp_dream hC (fun s1 hC1 hS1 hL1 => ?_)
    refine ⟨(fun x s => 0 ≤ x ∧ x ≤ n ∧ CI s A ∧ stC s 38 = yrs (aV A) z (aS A) x.toNat ∧ shOK (gL s 38 6)), (fun x _ => (n - x).toNat), ⟨by omega, by omega, hC1, hS1, hL1⟩, ?_⟩
    rintro x1 s2 ⟨g0, g1, hC2, hS2, hL2⟩
    have hin := yrs_in (z := z) hW.1 hW.2.1 x1.toNat
    refine ⟨⟨by omega, by omega⟩, fun d => ?_, fun d => ?_⟩
    · have e : x1.toNat = n.toNat := by omega
      rw [e] at hS2 hin
      refine ⟨fun q => ?_, fun q => ?_⟩
      · rw [if_neg q] at h
        refine sp_soups (s := 38) (B := B + n.toNat) (n := vN (aV A)) (by omega) (by rw [hS2]; exact hin) (fun r1 b1 => ?_)
        refine sp_soups (s := 36) (B := B) (n := vN (aV A)) (by omega) (hC2.st hW) (fun r2 b2 => ?_)
        rw [hS2] at b1 ⊢
        rw [hC2.2.1.1] at b2 ⊢
        exact ⟨⟨by omega, by omega⟩, h s2 hC2⟩
      · rw [if_pos q] at h
        have v : gI s2 38 2 = tBell (stC s2 38) := rfl
        rw [v, hS2]
        exact h s2 hC2
    · refine sp_drawn (V := aV A) hC2.n hn ⟨by omega, by omega⟩ ⟨g0, by omega⟩ ?_
      intro s3 e3
      have hF3 : Fr [38] s2 s3 := by rw [e3]; exact Fr.I (by decide) _ _
      have hC3 : CI s3 A := hC2.dr (hF3.mono (by decide)) (hC2.N.Fr hF3 (by decide)) (hF3.gR (by decide) 2)
      have v3 : gI s2 38 3 = tHeld (yrs (aV A) z (aS A) x1.toNat) := by rw [← hS2]; rfl
      have hS3 : stC s3 38 = tSetHeld (yrs (aV A) z (aS A) x1.toNat) (ior (tHeld (yrs (aV A) z (aS A) x1.toNat)) (drw (aV A) z x1)) := by
        rw [← v3, ← hS2, e3]
        unfold stC tSetHeld
        rw [gI_eq, gI_nj (by decide), gI_nj (by decide), gI_nj (by decide), gI_nj (by decide)]
        rfl
      have hL3 : shOK (gL s3 38 6) := by rw [e3]; exact hL2
      refine sp_dgo (B := B + x1.toNat) hC3 (by omega) (by rw [hS3]; exact yst hn hin) hL3 (fun s4 hC4 hS4 hL4 _ => ?_)
      intro x2 e2
      refine ⟨⟨by omega, by omega, hC4, ?_, hL4⟩, by dsimp only; omega⟩
      rw [hS4, hS3, show x2.toNat = x1.toNat + 1 by omega]
      show _ = gby _ (tSetHeld _ (ior _ (drw _ z ((x1.toNat : Nat) : Int))))
      rw [show ((x1.toNat : Nat) : Int) = x1 by omega]
  · rw [if_neg (by omega)] at h; exact h σ hC
theorem sp_ways {σ : MS} {A : AT} {B : Int} {Q : Int → Prop} (hC : CI σ A) (hW : WF B A) (h : Q (wct (aV A))) : wp_Valley_ways (gR σ 0 0) σ Q := by
  have hn := hW.n
  have hV := hC.1.2.2.2
  let p := fun p : Int => decide (p / 7 < p % 7 ∧ 0 < vWay (aV A) (p / 7) (p % 7))
  have key : ∀ x, 0 ≤ x → x < 49 → (0 < gI σ (gR σ 0 0 + 3) x ↔ p x = true) := by
    intro x x1 x2
    show _ ↔ decide _ = true
    rw [decide_eq_true_iff]
    by_cases q : x / 7 < x % 7 ∧ x % 7 < vN (aV A)
    · have e := hC.w (a := x / 7) (b := x % 7) (by omega) (by omega) (by omega)
      have e2 : pr (x / 7) (x % 7) = x := by unfold pr; omega
      rw [e2] at e
      rw [e]
      exact ⟨fun z => ⟨q.1, z⟩, fun z => z.2⟩
    · constructor
      · intro z
        have := hV x x1 x2 (by omega)
        rw [hC.n] at this
        exact absurd this q
      · rintro ⟨z1, z2⟩
        exfalso
        have e : vWay (aV A) (x / 7) (x % 7) = 0 := by
          rw [← hC.N.2.1]
          have h3 := hC.n
          have h4 := hC.v
          show (if _ then _ else _) = _
          rw [if_neg]
          rintro ⟨w1, w2, w3, w4, w5⟩
          rw [h4, h3] at w4
          exact q ⟨z1, w4⟩
        omega
  unfold wp_Valley_ways
  refine ⟨(fun y x => 0 ≤ x ∧ x ≤ 49 ∧ y = cnt p x.toNat), (fun _ x => (49 - x).toNat), ⟨by omega, by omega, rfl⟩, ?_⟩
  rintro y1 x1 ⟨g0, g1, g2⟩
  have hin := cnt_in p x1.toNat
  refine ⟨⟨by omega, by omega⟩, fun c => ⟨⟨by omega, by omega⟩, ?_⟩, fun c => ⟨⟨g0, by omega⟩, fun c2 => ?_, fun c2 => ?_⟩⟩
  · rw [g2, show x1.toNat = 49 by omega]
    exact h
  · intro x3 e3 x4 e4
    refine ⟨⟨by omega, by omega, ?_⟩, by dsimp only; omega⟩
    rw [e3, g2, show x4.toNat = x1.toNat + 1 by omega]
    show _ = cnt p x1.toNat + (if p ((x1.toNat : Nat) : Int) = true then 1 else 0)
    rw [show ((x1.toNat : Nat) : Int) = x1 by omega, if_neg (fun z => by have := (key x1 g0 (by omega)).2 z; omega), Int.add_zero]
  · intro x3 e3 x4 e4
    refine ⟨⟨by omega, by omega, ?_⟩, by dsimp only; omega⟩
    rw [e3, g2, show x4.toNat = x1.toNat + 1 by omega]
    show _ = cnt p x1.toNat + (if p ((x1.toNat : Nat) : Int) = true then 1 else 0)
    rw [show ((x1.toNat : Nat) : Int) = x1 by omega, if_pos ((key x1 g0 (by omega)).1 (by omega))]
