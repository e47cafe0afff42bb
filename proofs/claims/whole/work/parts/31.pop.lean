/-! ===== counting bits ===== -/
def m5 : Nat → Nat
  | 0 => 0
  | n + 1 => 85 + 256 * m5 n
def m3 : Nat → Nat
  | 0 => 0
  | n + 1 => 51 + 256 * m3 n
def mf : Nat → Nat
  | 0 => 0
  | n + 1 => 15 + 256 * mf n
theorem and256 (b r c m : Nat) (hb : b < 256) (hc : c < 256) : (b + 256 * r) &&& (c + 256 * m) = (b &&& c) + 256 * (r &&& m) := by
  have h1 : ((b + 256 * r) &&& (c + 256 * m)) % 2 ^ 8 = (b &&& c) := by
    rw [Nat.and_mod_two_pow, show (b + 256 * r) % 2 ^ 8 = b by omega, show (c + 256 * m) % 2 ^ 8 = c by omega]
  have h2 : ((b + 256 * r) &&& (c + 256 * m)) / 2 ^ 8 = (r &&& m) := by
    rw [Nat.and_div_two_pow, show (b + 256 * r) / 2 ^ 8 = r by omega, show (c + 256 * m) / 2 ^ 8 = m by omega]
  generalize ((b + 256 * r) &&& (c + 256 * m)) = z at *
  generalize (b &&& c) = u at *
  omega
def P1 (n x : Nat) : Nat := x - ((x / 2) &&& m5 n)
def P2 (n x : Nat) : Nat := (x &&& m3 n) + ((x / 4) &&& m3 n)
def P3 (n x : Nat) : Nat := (x + x / 16) &&& mf n
theorem k1 : ∀ b, b < 256 → ∀ q, q < 2 → (b / 2 + 128 * q) &&& 85 = (b / 2) &&& 85 := by decide +kernel
theorem k2 : ∀ b, b < 256 → ∀ q, q < 4 → (b / 4 + 64 * q) &&& 51 = (b / 4) &&& 51 := by decide +kernel
def h1 (b : Nat) : Nat := b - ((b / 2) &&& 85)
def h2 (b : Nat) : Nat := (h1 b &&& 51) + ((h1 b / 4) &&& 51)
def h3 (b : Nat) : Nat := (h2 b + h2 b / 16) &&& 15
theorem k3 : ∀ b, b < 256 → h1 b < 256 ∧ h2 b < 69 ∧ h2 b % 16 ≤ 4 := by decide +kernel
theorem k4 : ∀ b, b < 256 → ∀ q, q < 5 → (h2 b + h2 b / 16 + 16 * q) &&& 15 = h3 b := by decide +kernel
theorem P1_s (n b r : Nat) (hb : b < 256) : P1 (n + 1) (b + 256 * r) = h1 b + 256 * P1 n r := by
  have e : (b + 256 * r) / 2 = (b / 2 + 128 * (r % 2)) + 256 * (r / 2) := by omega
  have e2 : ((b + 256 * r) / 2) &&& m5 (n + 1) = ((b / 2) &&& 85) + 256 * ((r / 2) &&& m5 n) := by
    rw [e]
    show _ &&& (85 + 256 * m5 n) = _
    rw [and256 _ _ _ _ (by omega) (by decide), k1 b hb _ (by omega)]
  have h1' : ((b / 2) &&& 85) ≤ b / 2 := Nat.and_le_left
  have h2' : ((r / 2) &&& m5 n) ≤ r / 2 := Nat.and_le_left
  unfold P1 h1
  rw [e2]
  generalize ((b / 2) &&& 85) = u at *
  generalize ((r / 2) &&& m5 n) = v at *
  omega
theorem P2_s (n b r : Nat) (hb : b < 256) : P2 (n + 1) (b + 256 * r) = ((b &&& 51) + ((b / 4) &&& 51)) + 256 * P2 n r := by
  have e : (b + 256 * r) / 4 = (b / 4 + 64 * (r % 4)) + 256 * (r / 4) := by omega
  unfold P2
  rw [e]
  show (_ &&& (51 + 256 * m3 n)) + (_ &&& (51 + 256 * m3 n)) = _
  rw [and256 _ _ _ _ hb (by decide), and256 _ _ _ _ (by omega) (by decide), k2 b hb _ (by omega)]
  omega
theorem P21_s (n b r : Nat) (hb : b < 256) : P2 (n + 1) (P1 (n + 1) (b + 256 * r)) = h2 b + 256 * P2 n (P1 n r) := by
  rw [P1_s n b r hb, P2_s n _ _ (k3 b hb).1]
  rfl
theorem P21_m : ∀ n r, r < 256 ^ n → P2 n (P1 n r) % 16 ≤ 4 := by
  intro n
  cases n with
  | zero =>
    intro r hr
    have : r = 0 := by simpa using hr
    subst this
    decide
  | succ n =>
    intro r hr
    have e : r = r % 256 + 256 * (r / 256) := by omega
    rw [e, P21_s n _ _ (by omega)]
    have := (k3 (r % 256) (by omega)).2.2
    omega
def PC (n x : Nat) : Nat := P3 n (P2 n (P1 n x))
theorem PC_s (n b r : Nat) (hb : b < 256) (hr : r < 256 ^ n) : PC (n + 1) (b + 256 * r) = h3 b + 256 * PC n r := by
  unfold PC
  rw [P21_s n b r hb]
  have hm := P21_m n r hr
  have hk := k3 b hb
  generalize P2 n (P1 n r) = y at *
  unfold P3
  have e : h2 b + 256 * y + (h2 b + 256 * y) / 16 = (h2 b + h2 b / 16 + 16 * (y % 16)) + 256 * (y + y / 16) := by omega
  rw [e]
  show _ &&& (15 + 256 * mf n) = _
  rw [and256 _ _ _ _ (by omega) (by decide), k4 b hb _ (by omega)]
def bcn (x : Nat) : Nat → Int
  | 0 => 0
  | k + 1 => bcn x k + (if x.testBit k then 1 else 0)
theorem k5 : ∀ b, b < 256 → ((h3 b : Nat) : Int) = bcn b 8 ∧ h3 b ≤ 8 := by decide +kernel
theorem bcn_s (b r : Nat) (hb : b < 256) : ∀ k, bcn (b + 256 * r) (8 + k) = bcn b 8 + bcn r k := by
  have lo : ∀ k, k ≤ 8 → bcn (b + 256 * r) k = bcn b k := by
    intro k
    induction k with
    | zero => intro _; rfl
    | succ k ih =>
      intro hk
      show bcn _ k + _ = bcn _ k + _
      rw [ih (by omega)]
      have e : (b + 256 * r).testBit k = b.testBit k := by
        have h1 : (b + 256 * r) % 2 ^ 8 = b := by omega
        have h2 := Nat.testBit_mod_two_pow (b + 256 * r) 8 k
        rw [h1, decide_eq_true (by omega), Bool.true_and] at h2
        exact h2.symm
      rw [e]
  intro k
  induction k with
  | zero => show _ = _ + 0; rw [Int.add_zero]; exact lo 8 (Nat.le_refl _)
  | succ k ih =>
    show bcn _ (8 + k) + _ = _ + (bcn r k + _)
    rw [ih]
    have e : (b + 256 * r).testBit (8 + k) = r.testBit k := by
      have h2 := Nat.testBit_div_two_pow (b + 256 * r) (i := k) (n := 8)
      rw [show (b + 256 * r) / 2 ^ 8 = r by omega] at h2
      rw [Nat.add_comm 8 k]
      exact h2.symm
    have e' : (b + 256 * r).testBit (Nat.add 8 k) = r.testBit k := e
    rw [e']
    omega
theorem PC7 (x : Nat) (hx : x < 562949953421312) : ∃ c0 c1 c2 c3 c4 c5 c6 : Nat, PC 8 x = c0 + 256 * (c1 + 256 * (c2 + 256 * (c3 + 256 * (c4 + 256 * (c5 + 256 * c6))))) ∧ (c0 ≤ 8 ∧ c1 ≤ 8 ∧ c2 ≤ 8 ∧ c3 ≤ 8 ∧ c4 ≤ 8 ∧ c5 ≤ 8 ∧ c6 ≤ 8) ∧ ((c0 + c1 + c2 + c3 + c4 + c5 + c6 : Nat) : Int) = bcn x 49 := by
  have st : ∀ n y, y < 256 ^ (n + 1) → PC (n + 1) y = h3 (y % 256) + 256 * PC n (y / 256) ∧ (((h3 (y % 256) : Nat) : Int) = bcn (y % 256) 8 ∧ h3 (y % 256) ≤ 8) ∧ ∀ k, bcn y (8 + k) = bcn (y % 256) 8 + bcn (y / 256) k := by
    intro n y hy
    have e : y = y % 256 + 256 * (y / 256) := by omega
    have hr : y / 256 < 256 ^ n := by
      rw [Nat.pow_succ] at hy
      exact Nat.div_lt_of_lt_mul (by omega)
    refine ⟨?_, k5 _ (by omega), fun k => ?_⟩
    · have q := PC_s n (y % 256) (y / 256) (by omega) hr
      rw [← e] at q
      exact q
    · have q := bcn_s (y % 256) (y / 256) (by omega) k
      rw [← e] at q
      exact q
  obtain ⟨p0, ⟨a0, b0⟩, q0⟩ := st 7 x (by omega)
  obtain ⟨p1, ⟨a1, b1⟩, q1⟩ := st 6 (x / 256) (by omega)
  obtain ⟨p2, ⟨a2, b2⟩, q2⟩ := st 5 (x / 256 / 256) (by omega)
  obtain ⟨p3, ⟨a3, b3⟩, q3⟩ := st 4 (x / 256 / 256 / 256) (by omega)
  obtain ⟨p4, ⟨a4, b4⟩, q4⟩ := st 3 (x / 256 / 256 / 256 / 256) (by omega)
  obtain ⟨p5, ⟨a5, b5⟩, q5⟩ := st 2 (x / 256 / 256 / 256 / 256 / 256) (by omega)
  obtain ⟨p6, ⟨a6, b6⟩, q6⟩ := st 1 (x / 256 / 256 / 256 / 256 / 256 / 256) (by omega)
  have z6 : x / 256 / 256 / 256 / 256 / 256 / 256 < 2 := by omega
  have z7 : x / 256 / 256 / 256 / 256 / 256 / 256 / 256 = 0 := by omega
  have l6 : bcn (x / 256 / 256 / 256 / 256 / 256 / 256) 1 = ((h3 (x / 256 / 256 / 256 / 256 / 256 / 256 % 256) : Nat) : Int) := by
    have key : ∀ u, u < 2 → bcn u 1 = ((h3 (u % 256) : Nat) : Int) := by decide +kernel
    exact key _ z6
  have hp : PC 1 (x / 256 / 256 / 256 / 256 / 256 / 256 / 256) = 0 := by
    rw [z7]; decide
  refine ⟨_, _, _, _, _, _, _, ?_, ⟨b0, b1, b2, b3, b4, b5, b6⟩, ?_⟩
  · rw [p0, p1, p2, p3, p4, p5, p6, hp, Nat.mul_zero, Nat.add_zero]
  · have e := q0 41
    rw [show (8 + 41 : Nat) = 49 from rfl, show (41 : Nat) = 8 + 33 from rfl, q1 33, show (33 : Nat) = 8 + 25 from rfl, q2 25, show (25 : Nat) = 8 + 17 from rfl, q3 17, show (17 : Nat) = 8 + 9 from rfl, q4 9, show (9 : Nat) = 8 + 1 from rfl, q5 1, l6] at e
    rw [e]
    omega
theorem sp_intCount {m : Int} {Q : Int → Prop} (hm : 0 ≤ m ∧ m < 128) (h : Q (bct m)) : wp_Integer_bitCount m Q := by
  have key : ∀ m : Fin 128, (let p1 : Int := ((m.val : Nat) : Int)
      let x1 := p1 - iand (iushr p1 1) 1431655765
      let x2 := iand x1 858993459 + iand (iushr x1 2) 858993459
      let x3 := iand (x2 + iushr x2 4) 252645135
      let x4 := x3 + iushr x3 8
      let x5 := x4 + iushr x4 16
      iand x5 63) = bct ((m.val : Nat) : Int) := by decide +kernel
  unfold wp_Integer_bitCount
  intro x1 e1 x2 e2 x3 e3 x4 e4 x5 e5
  have k := key ⟨m.toNat, by omega⟩
  simp only [show ((m.toNat : Nat) : Int) = m by omega] at k
  rw [e5, e4, e3, e2, e1, k]
  exact h
theorem U_add {a b : Int64} (h : a.toBitVec.toNat + b.toBitVec.toNat < 18446744073709551616) : (a + b).toBitVec.toNat = a.toBitVec.toNat + b.toBitVec.toNat := by
  rw [Int64.toBitVec_add, BitVec.toNat_add, Nat.mod_eq_of_lt h]
theorem U_and (a b : Int64) : (a &&& b).toBitVec.toNat = a.toBitVec.toNat &&& b.toBitVec.toNat := by
  rw [Int64.toBitVec_and, BitVec.toNat_and]
theorem U_sub {a b : Int64} (h : b.toBitVec.toNat ≤ a.toBitVec.toNat) : (a - b).toBitVec.toNat = a.toBitVec.toNat - b.toBitVec.toNat := by
  rw [Int64.toBitVec_sub, BitVec.toNat_sub_of_le h]
theorem u64 : ∀ k : Fin 64, (((iI ((k.val : Nat) : Int)).toInt64.toUInt64 &&& Int64.toUInt64 63).toBitVec % 64#64).toNat = k.val := by decide +kernel
theorem lushr_bv (x : Int64) {k : Int} (h : 0 ≤ k) (h2 : k < 64) : (lushr x k).toBitVec = x.toBitVec >>> k.toNat := by
  have e := u64 ⟨k.toNat, by omega⟩
  simp only [show ((k.toNat : Nat) : Int) = k by omega] at e
  show x.toUInt64.toBitVec >>> (((iI k).toInt64.toUInt64 &&& Int64.toUInt64 63).toBitVec % 64#64) = _
  rw [BitVec.ushiftRight_eq', e]
  rfl
theorem U_shr (x : Int64) {k : Int} (h : 0 ≤ k) (h2 : k < 64) : (lushr x k).toBitVec.toNat = x.toBitVec.toNat / 2 ^ k.toNat := by
  rw [lushr_bv x h h2, BitVec.toNat_ushiftRight, Nat.shiftRight_eq_div_pow]
theorem cnt_bcn {x : Int64} : ∀ k : Nat, k ≤ 49 → cnt (fun p => shb x p) k = bcn x.toBitVec.toNat k := by
  intro k
  induction k with
  | zero => intro _; rfl
  | succ k ih =>
    intro hk
    show cnt _ k + _ = bcn _ k + _
    rw [ih (by omega)]
    have e : shb x ((k : Nat) : Int) = x.toBitVec.toNat.testBit k := by
      rw [shb_bit (by omega) (by omega), Int.toNat_natCast]
      rfl
    show _ + (if shb x ((k : Nat) : Int) = true then 1 else 0) = _
    rw [e]
theorem sct_C {σ : MS} {s : Nat} (h : shOK (gL σ s 6)) : sct (stC σ s) = bcn (gL σ s 6).toBitVec.toNat 49 := by
  rw [← cnt_bcn 49 (by omega)]
  refine cnt_cong 49 (fun c c1 c2 => ?_)
  show shX (gL σ s 6) (c / 7) (c % 7) = _
  unfold shX
  rw [show c / 7 * 7 + c % 7 = c by omega]
  by_cases q : shb (gL σ s 6) c = true
  · have := h.2.2 c c1 (by omega) q
    rw [decide_eq_true (by omega), Bool.true_and]
  · rw [Bool.eq_false_iff.2 q, Bool.and_false]
theorem l2i_127 (y : Int64) : iand (l2i y) 127 = ((y.toBitVec.toNat % 128 : Nat) : Int) := by
  unfold iand l2i
  rw [iI_of]
  show (y.toInt32.toBitVec &&& (iI 127).toBitVec).toInt = _
  have e : (y.toInt32.toBitVec &&& (iI 127).toBitVec).toNat = y.toBitVec.toNat % 128 := by
    rw [BitVec.toNat_and, Int64.toBitVec_toInt32, BitVec.signExtend_eq_setWidth_of_le _ (by decide), BitVec.toNat_setWidth]
    show _ &&& (2 ^ 7 - 1) = _
    rw [Nat.and_two_pow_sub_one_eq_mod]
    omega
  rw [bv_natI _ (by rw [e]; omega), e]
theorem sp_longCount {x : Int64} {Q : Int → Prop} (hx : shOK x) (h : Q (bcn x.toBitVec.toNat 49)) : wp_Long_bitCount x Q := by
  have hn := (shOK_nat hx).1
  obtain ⟨c0, c1, c2, c3, c4, c5, c6, hp, hc, hs⟩ := PC7 x.toBitVec.toNat hn
  unfold wp_Long_bitCount
  intro y1 e1 y2 e2 y3 e3 y4 e4 y5 e5 y6 e6
  have k5 : ((6148914691236517205 : Int64)).toBitVec.toNat = m5 8 := by decide +kernel
  have k3 : ((3689348814741910323 : Int64)).toBitVec.toNat = m3 8 := by decide +kernel
  have kf : ((1085102592571150095 : Int64)).toBitVec.toNat = mf 8 := by decide +kernel
  have v3 : m3 8 = 3689348814741910323 := by decide +kernel
  have vf : mf 8 = 1085102592571150095 := by decide +kernel
  have n1 : y1.toBitVec.toNat = P1 8 x.toBitVec.toNat := by
    have a : (lushr x 1 &&& (6148914691236517205 : Int64)).toBitVec.toNat = ((x.toBitVec.toNat / 2) &&& m5 8) := by
      rw [U_and, U_shr x (by decide) (by decide), k5]
      rfl
    have b : ((x.toBitVec.toNat / 2) &&& m5 8) ≤ x.toBitVec.toNat / 2 := Nat.and_le_left
    rw [e1, U_sub (by rw [a]; omega), a]
    rfl
  have n2 : y2.toBitVec.toNat = P2 8 (P1 8 x.toBitVec.toNat) ∧ y2.toBitVec.toNat ≤ 7378697629483820646 := by
    have a : (y1 &&& (3689348814741910323 : Int64)).toBitVec.toNat = (P1 8 x.toBitVec.toNat &&& m3 8) := by rw [U_and, n1, k3]
    have b : (lushr y1 2 &&& (3689348814741910323 : Int64)).toBitVec.toNat = ((P1 8 x.toBitVec.toNat / 4) &&& m3 8) := by
      rw [U_and, U_shr y1 (by decide) (by decide), n1, k3]
      rfl
    have c : (P1 8 x.toBitVec.toNat &&& m3 8) ≤ m3 8 := Nat.and_le_right
    have d : ((P1 8 x.toBitVec.toNat / 4) &&& m3 8) ≤ m3 8 := Nat.and_le_right
    have e : y2.toBitVec.toNat = P2 8 (P1 8 x.toBitVec.toNat) := by
      rw [e2, U_add (by rw [a, b]; omega), a, b]
      rfl
    refine ⟨e, ?_⟩
    rw [e]
    unfold P2
    omega
  have n3 : y3.toBitVec.toNat = PC 8 x.toBitVec.toNat := by
    have a : (lushr y2 4).toBitVec.toNat = y2.toBitVec.toNat / 16 := U_shr y2 (by decide) (by decide)
    rw [e3, U_and, U_add (by rw [a]; omega), a, kf, n2.1]
    rfl
  rw [hp] at n3
  have a4 : (lushr y3 8).toBitVec.toNat = y3.toBitVec.toNat / 256 := U_shr y3 (by decide) (by decide)
  have n4 : y4.toBitVec.toNat = y3.toBitVec.toNat + y3.toBitVec.toNat / 256 := by rw [e4, U_add (by rw [a4]; omega), a4]
  have a5 : (lushr y4 16).toBitVec.toNat = y4.toBitVec.toNat / 65536 := U_shr y4 (by decide) (by decide)
  have n5 : y5.toBitVec.toNat = y4.toBitVec.toNat + y4.toBitVec.toNat / 65536 := by rw [e5, U_add (by rw [a5]; omega), a5]
  have a6 : (lushr y5 32).toBitVec.toNat = y5.toBitVec.toNat / 4294967296 := U_shr y5 (by decide) (by decide)
  have n6 : y6.toBitVec.toNat = y5.toBitVec.toNat + y5.toBitVec.toNat / 4294967296 := by rw [e6, U_add (by rw [a6]; omega), a6]
  rw [l2i_127]
  have e : y6.toBitVec.toNat % 128 = c0 + c1 + c2 + c3 + c4 + c5 + c6 := by
    clear e1 e2 e3 e4 e5 e6 hs hx h hp n1 n2 k5 k3 kf v3 vf a4 a5 a6
    generalize y6.toBitVec.toNat = z6 at *
    generalize y5.toBitVec.toNat = z5 at *
    generalize y4.toBitVec.toNat = z4 at *
    generalize y3.toBitVec.toNat = z3 at *
    have d4 : z3 / 256 = c1 + 256 * (c2 + 256 * (c3 + 256 * (c4 + 256 * (c5 + 256 * c6)))) := by omega
    have f4 : z4 = (c0 + c1) + 256 * ((c1 + c2) + 256 * ((c2 + c3) + 256 * ((c3 + c4) + 256 * ((c4 + c5) + 256 * ((c5 + c6) + 256 * c6))))) := by omega
    clear n4 d4 n3
    have d5 : z4 / 65536 = (c2 + c3) + 256 * ((c3 + c4) + 256 * ((c4 + c5) + 256 * ((c5 + c6) + 256 * c6))) := by omega
    have f5 : z5 = (c0 + c1 + c2 + c3) + 256 * ((c1 + c2 + c3 + c4) + 256 * ((c2 + c3 + c4 + c5) + 256 * ((c3 + c4 + c5 + c6) + 256 * ((c4 + c5 + c6) + 256 * ((c5 + c6) + 256 * c6))))) := by omega
    clear n5 d5 f4
    have d6 : z5 / 4294967296 = (c4 + c5 + c6) + 256 * ((c5 + c6) + 256 * c6) := by omega
    omega
  rw [e, hs]
  exact h
theorem sp_B_count {σ : MS} {A : AT} {B w : Int} {Q : Int → Prop} (hC : CI σ A) (hW : WF B A) (hB : 0 ≤ B ∧ B ≤ 900000) (h : Q (fCount A w)) : wp_B_count w σ Q := by
  obtain ⟨s1, s2, s3, s4, s5, s6⟩ := hC.s
  unfold wp_B_count
  unfold fCount at h
  refine ⟨fun e => ?_, fun e => ?_, fun e => ?_, fun e => ?_, fun e => ?_, fun e => ?_, fun e => ?_, fun e => ?_, fun e => ?_, fun e => ?_, fun e => ?_, fun e0 e1 e2 e3 e4 e5 e6 e7 e8 e9 e10 => ?_⟩
  · rw [if_pos e] at h; rw [hC.n]; exact h
  · rw [if_neg (by omega), if_pos e] at h; exact sp_ways hC hW h
  · rw [if_neg (by omega), if_neg (by omega), if_pos e] at h
    refine sp_longCount hC.2.1.2 ?_
    rw [← hC.2.1.1, sct_C hC.2.1.2] at h
    exact h
  · rw [if_neg (by omega), if_neg (by omega), if_neg (by omega), if_pos e] at h; rw [s1]; exact h
  · rw [if_neg (by omega), if_neg (by omega), if_neg (by omega), if_neg (by omega), if_pos e] at h; rw [s2]; exact h
  · rw [if_neg (by omega), if_neg (by omega), if_neg (by omega), if_neg (by omega), if_neg (by omega), if_pos e] at h
    rw [s4]
    exact sp_intCount hW.2.1.2.2.2.2.2.2.1 h
  · rw [if_neg (by omega), if_neg (by omega), if_neg (by omega), if_neg (by omega), if_neg (by omega), if_neg (by omega), if_pos e] at h
    refine sp_soups (s := 36) hB (hC.st hW) (fun _ _ => ?_)
    rw [hC.2.1.1]
    exact h
  · rw [if_neg (by omega), if_neg (by omega), if_neg (by omega), if_neg (by omega), if_neg (by omega), if_neg (by omega), if_neg (by omega), if_pos e] at h
    rw [hC.2.2.2.2.2.1.1]; exact h
  · rw [if_neg (by omega), if_neg (by omega), if_neg (by omega), if_neg (by omega), if_neg (by omega), if_neg (by omega), if_neg (by omega), if_neg (by omega), if_pos e] at h
    rw [hC.2.2.1.2.1]; exact h
  · rw [if_neg (by omega), if_neg (by omega), if_neg (by omega), if_neg (by omega), if_neg (by omega), if_neg (by omega), if_neg (by omega), if_neg (by omega), if_neg (by omega), if_pos e] at h
    rw [hC.2.2.2.1.2.1]; exact h
  · rw [if_neg (by omega), if_neg (by omega), if_neg (by omega), if_neg (by omega), if_neg (by omega), if_neg (by omega), if_neg (by omega), if_neg (by omega), if_neg (by omega), if_neg (by omega), if_pos e] at h
    rw [hC.2.2.2.2.2.2.1]; exact h
  · rw [if_neg e0, if_neg e1, if_neg e2, if_neg e3, if_neg e4, if_neg e5, if_neg e6, if_neg e7, if_neg e8, if_neg e9, if_neg e10] at h
    exact h
