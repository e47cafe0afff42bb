/-! ===== sums over who is missing are products ===== -/
def prodN (f : Int → Int) : Nat → Int
  | 0 => 1
  | k + 1 => prodN f k * f k
theorem prodN_cong {f g : Int → Int} : ∀ n : Nat, (∀ i : Int, 0 ≤ i → i < n → f i = g i) → prodN f n = prodN g n := by
  intro n
  induction n with
  | zero => intro _; rfl
  | succ n ih => intro h; show prodN f n * f n = prodN g n * g n; rw [ih (fun i i1 i2 => h i i1 (by omega)), h n (by omega) (by omega)]
theorem prodN_mul (f g : Int → Int) : ∀ n : Nat, prodN f n * prodN g n = prodN (fun i => f i * g i) n := by
  intro n
  induction n with
  | zero => rfl
  | succ n ih =>
    show prodN f n * f n * (prodN g n * g n) = prodN (fun i => f i * g i) n * (f n * g n)
    rw [← ih, Int.mul_assoc, Int.mul_left_comm (f n), ← Int.mul_assoc]
theorem prodN_1 (q : Int → Bool) : ∀ n : Nat, (∀ c : Int, 0 ≤ c → c < n → q c = true) → prodN (fun c => if q c = true then 1 else 0) n = 1 := by
  intro n
  induction n with
  | zero => intro _; rfl
  | succ n ih =>
    intro h
    show prodN _ n * (if q n = true then 1 else 0) = 1
    rw [ih (fun c c1 c2 => h c c1 (by omega)), h n (by omega) (by omega)]
    rfl
theorem prodN_0 (q : Int → Bool) : ∀ n : Nat, (∃ c : Int, (0 ≤ c ∧ c < n) ∧ q c = false) → prodN (fun c => if q c = true then 1 else 0) n = 0 := by
  intro n
  induction n with
  | zero => rintro ⟨c, c1, -⟩; omega
  | succ n ih =>
    rintro ⟨c, c1, hc⟩
    show prodN _ n * (if q n = true then 1 else 0) = 0
    by_cases e : c = n
    · rw [← e, hc]; exact Int.mul_zero _
    · rw [ih ⟨c, by omega, hc⟩, Int.zero_mul]
theorem sumN_add (f : Int → Int) (a : Nat) : ∀ b : Nat, sumN f (a + b) = sumN f a + sumN (fun i => f (a + i)) b := by
  intro b
  induction b with
  | zero => show sumN f a = sumN f a + 0; omega
  | succ b ih =>
    show sumN f (a + b) + f ((a + b : Nat) : Int) = sumN f a + (sumN (fun i => f (a + i)) b + f ((a : Int) + (b : Int)))
    rw [ih, show ((a + b : Nat) : Int) = (a : Int) + (b : Int) by omega]
    omega
theorem sumN_mulR (f : Int → Int) (c : Int) : ∀ n : Nat, sumN f n * c = sumN (fun i => f i * c) n := by
  intro n
  induction n with
  | zero => exact Int.zero_mul c
  | succ n ih => show (sumN f n + f n) * c = sumN (fun i => f i * c) n + f n * c; rw [Int.add_mul, ih]
theorem sumN_plus (f g : Int → Int) : ∀ n : Nat, sumN (fun i => f i + g i) n = sumN f n + sumN g n := by
  intro n
  induction n with
  | zero => rfl
  | succ n ih => show sumN (fun i => f i + g i) n + (f n + g n) = sumN f n + f n + (sumN g n + g n); rw [ih]; omega
/-- the product of what each child gives by its bit -/
def bw (F : Int → Int → Int) (m : Int) (n : Nat) : Int := prodN (fun c => F c (bitI m c)) n
theorem sum_prod (F : Int → Int → Int) : ∀ n : Nat, n ≤ 7 → sumN (fun m => bw F m n) (2 ^ n) = prodN (fun c => F c 0 + F c 1) n := by
  intro n
  induction n with
  | zero => intro _; rfl
  | succ n ih =>
    intro hn
    have hp : 2 ^ n ≤ 2 ^ 6 := Nat.pow_le_pow_right (by decide) (by omega)
    rw [Nat.pow_succ, Nat.mul_two, sumN_add]
    have e1 : sumN (fun m => bw F m (n + 1)) (2 ^ n) = sumN (fun m => bw F m n * F n 0) (2 ^ n) := by
      refine sumN_cong _ (fun m m1 m2 => ?_)
      obtain ⟨k, rfl⟩ := Int.eq_ofNat_of_zero_le m1
      have hk : k < 2 ^ n := Int.ofNat_lt.1 m2
      show prodN _ n * F n (bitI (k : Int) (n : Int)) = _
      rw [bitI_nat (by omega) (by omega), Nat.testBit_lt_two_pow hk]
      rfl
    have e2 : sumN (fun i => bw F (((2 ^ n : Nat) : Int) + i) (n + 1)) (2 ^ n) = sumN (fun m => bw F m n * F n 1) (2 ^ n) := by
      refine sumN_cong _ (fun m m1 m2 => ?_)
      obtain ⟨k, rfl⟩ := Int.eq_ofNat_of_zero_le m1
      have hk : k < 2 ^ n := Int.ofNat_lt.1 m2
      rw [show ((2 ^ n : Nat) : Int) + (k : Int) = ((2 ^ n + k : Nat) : Int) by rw [Int.natCast_add]]
      show prodN (fun c => F c (bitI ((2 ^ n + k : Nat) : Int) c)) n * F n (bitI ((2 ^ n + k : Nat) : Int) (n : Int)) = prodN (fun c => F c (bitI (k : Int) c)) n * F n 1
      rw [bitI_nat (by omega) (by omega), Nat.testBit_two_pow_add_eq, Nat.testBit_lt_two_pow hk]
      congr 1
      refine prodN_cong n (fun c c1 c2 => ?_)
      obtain ⟨j, rfl⟩ := Int.eq_ofNat_of_zero_le c1
      rw [bitI_nat (by omega) (by omega), bitI_nat (by omega) (by omega), Nat.testBit_two_pow_add_gt (by omega)]
    rw [e1, e2, ← sumN_mulR, ← sumN_mulR, ih (by omega)]
    show _ = prodN (fun c => F c 0 + F c 1) n * (F n 0 + F n 1)
    rw [Int.mul_add]
theorem prod_pw (x : Int) (p : Int → Bool) : ∀ n : Nat, prodN (fun c => if p c = true then x else 10) n = pw x (cnt p n).toNat * pw 10 ((n : Int) - cnt p n).toNat := by
  intro n
  induction n with
  | zero => rfl
  | succ n ih =>
    have hc := cnt_in p n
    show prodN _ n * (if p n = true then x else 10) = pw x (cnt p n + (if p n = true then 1 else 0)).toNat * pw 10 (((n + 1 : Nat) : Int) - (cnt p n + (if p n = true then 1 else 0))).toNat
    rw [ih]
    by_cases h : p n = true
    · rw [if_pos h, if_pos h, show (cnt p n + 1).toNat = (cnt p n).toNat + 1 by omega, show (((n + 1 : Nat) : Int) - (cnt p n + 1)).toNat = ((n : Int) - cnt p n).toNat by omega]
      show _ = pw x (cnt p n).toNat * x * _
      rw [Int.mul_right_comm]
    · rw [if_neg h, if_neg h, Int.add_zero, show (((n + 1 : Nat) : Int) - cnt p n).toNat = ((n : Int) - cnt p n).toNat + 1 by omega]
      show _ = _ * (pw 10 _ * 10)
      rw [Int.mul_assoc]
/-- the same, but one child gives another number -/
theorem prod_pw1 (x y a : Int) (p : Int → Bool) (hp : p a = false) : ∀ n : Nat, 0 ≤ a → prodN (fun c => if c = a then y else if p c = true then x else 10) n = if a < n then y * pw x (cnt p n).toNat * pw 10 ((n : Int) - 1 - cnt p n).toNat else pw x (cnt p n).toNat * pw 10 ((n : Int) - cnt p n).toNat := by
  intro n
  induction n with
  | zero => intro h; rw [if_neg (by omega)]; rfl
  | succ n ih =>
    intro h
    have hc := cnt_in p n
    show prodN _ n * (if (n : Int) = a then y else if p n = true then x else 10) = _
    rw [ih h]
    have ec : cnt p (n + 1) = cnt p n + (if p n = true then 1 else 0) := rfl
    by_cases e : (n : Int) = a
    · rw [if_pos e, if_neg (show ¬ a < (n : Int) by omega), if_pos (show a < ((n + 1 : Nat) : Int) by omega), ec, e, hp, if_neg (by decide), Int.add_zero, show (((n + 1 : Nat) : Int) - 1 - cnt p n).toNat = ((n : Int) - cnt p n).toNat by omega, ← e]
      rw [Int.mul_comm _ y, ← Int.mul_assoc]
    · rw [if_neg e]
      by_cases q : a < n
      · have hl := cnt_lt (p := p) n h q hp
        rw [if_pos q, if_pos (show a < ((n + 1 : Nat) : Int) by omega), ec]
        by_cases z : p n = true
        · rw [if_pos z, if_pos z, show (cnt p n + 1).toNat = (cnt p n).toNat + 1 by omega, show (((n + 1 : Nat) : Int) - 1 - (cnt p n + 1)).toNat = ((n : Int) - 1 - cnt p n).toNat by omega]
          show _ = y * (pw x (cnt p n).toNat * x) * _
          rw [← Int.mul_assoc, Int.mul_right_comm]
        · rw [if_neg z, if_neg z, Int.add_zero, show (((n + 1 : Nat) : Int) - 1 - cnt p n).toNat = ((n : Int) - 1 - cnt p n).toNat + 1 by omega]
          show _ = _ * (pw 10 _ * 10)
          rw [Int.mul_assoc]
      · rw [if_neg q, if_neg (show ¬ a < ((n + 1 : Nat) : Int) by omega), ec]
        by_cases z : p n = true
        · rw [if_pos z, if_pos z, show (cnt p n + 1).toNat = (cnt p n).toNat + 1 by omega, show (((n + 1 : Nat) : Int) - (cnt p n + 1)).toNat = ((n : Int) - cnt p n).toNat by omega]
          show _ = pw x (cnt p n).toNat * x * _
          rw [Int.mul_right_comm]
        · rw [if_neg z, if_neg z, Int.add_zero, show (((n + 1 : Nat) : Int) - cnt p n).toNat = ((n : Int) - cnt p n).toNat + 1 by omega]
          show _ = _ * (pw 10 _ * 10)
          rw [Int.mul_assoc]
