/-! ===== sets of homes that have had the bell since, as numbers below 64 ===== -/
def nm (m0 : Nat) : Nat → Nat
  | 0 => 0
  | h + 1 => if m0.testBit h = true then nm m0 h else nm m0 h + 1
def en (m0 x : Nat) : Nat → Nat
  | 0 => 0
  | h + 1 => if m0.testBit h = true then en m0 x h else en m0 x h + (if x.testBit h = true then 2 ^ nm m0 h else 0)
theorem nm_le (m0 : Nat) : ∀ h, nm m0 h ≤ h := by
  intro h
  induction h with
  | zero => exact Nat.le_refl _
  | succ h ih =>
    unfold nm
    split <;> omega
theorem nm_mono (m0 : Nat) : ∀ h j, nm m0 h ≤ nm m0 (h + j) ∧ nm m0 (h + j) ≤ nm m0 h + j := by
  intro h j
  induction j with
  | zero => exact ⟨Nat.le_refl _, Nat.le_refl _⟩
  | succ j ih =>
    show nm m0 h ≤ (if m0.testBit (h + j) = true then nm m0 (h + j) else nm m0 (h + j) + 1) ∧ (if m0.testBit (h + j) = true then nm m0 (h + j) else nm m0 (h + j) + 1) ≤ _
    split <;> omega
/-- one that is had is not missing -/
theorem nm_lt {m0 b n : Nat} (hb : b < n) (h : m0.testBit b = true) : nm m0 n ≤ n - 1 := by
  have h1 := nm_le m0 b
  have h2 : nm m0 (b + 1) = nm m0 b := by
    show (if _ then _ else _) = _
    rw [if_pos h]
  have h3 := (nm_mono m0 (b + 1) (n - (b + 1))).2
  rw [show b + 1 + (n - (b + 1)) = n by omega] at h3
  omega
theorem nm_in {m0 h n : Nat} (hh : h < n) (hm : ¬ m0.testBit h = true) : nm m0 h < nm m0 n := by
  have h2 : nm m0 (h + 1) = nm m0 h + 1 := by
    show (if _ then _ else _) = _
    rw [if_neg hm]
  have h3 := (nm_mono m0 (h + 1) (n - (h + 1))).1
  rw [show h + 1 + (n - (h + 1)) = n by omega] at h3
  omega
theorem en_lt (m0 x : Nat) : ∀ h, en m0 x h < 2 ^ nm m0 h := by
  intro h
  induction h with
  | zero => exact Nat.one_pos
  | succ h ih =>
    have e : en m0 x (h + 1) = if m0.testBit h = true then en m0 x h else en m0 x h + (if x.testBit h = true then 2 ^ nm m0 h else 0) := rfl
    have e2 : nm m0 (h + 1) = if m0.testBit h = true then nm m0 h else nm m0 h + 1 := rfl
    rw [e, e2]
    by_cases q : m0.testBit h = true
    · rw [if_pos q, if_pos q]; exact ih
    · rw [if_neg q, if_neg q, Nat.pow_succ]
      generalize 2 ^ nm m0 h = z at *
      split <;> omega
theorem en_full (m0 x : Nat) : ∀ h, en m0 x h = 2 ^ nm m0 h - 1 ↔ ∀ i, i < h → ¬ m0.testBit i = true → x.testBit i = true := by
  intro h
  induction h with
  | zero => exact ⟨fun _ i hi => absurd hi (by omega), fun _ => rfl⟩
  | succ h ih =>
    have hl := en_lt m0 x h
    have e : en m0 x (h + 1) = if m0.testBit h = true then en m0 x h else en m0 x h + (if x.testBit h = true then 2 ^ nm m0 h else 0) := rfl
    have e2 : nm m0 (h + 1) = if m0.testBit h = true then nm m0 h else nm m0 h + 1 := rfl
    rw [e, e2]
    by_cases q : m0.testBit h = true
    · rw [if_pos q, if_pos q, ih]
      constructor
      · intro a i hi hm
        by_cases e : i = h
        · rw [e] at hm; exact absurd q hm
        · exact a i (by omega) hm
      · intro a i hi hm; exact a i (by omega) hm
    · rw [if_neg q, if_neg q, Nat.pow_succ]
      constructor
      · intro a
        have hx : x.testBit h = true := by
          by_cases z : x.testBit h = true
          · exact z
          · rw [if_neg z] at a; omega
        rw [if_pos hx] at a
        intro i hi hm
        by_cases e : i = h
        · rw [e]; exact hx
        · exact (ih.1 (by omega)) i (by omega) hm
      · intro a
        have hx := a h (by omega) q
        have := ih.2 (fun i hi hm => a i (by omega) hm)
        rw [if_pos hx]
        omega
theorem or_add {e j : Nat} (h : e < 2 ^ j) : e ||| 2 ^ j = e + 2 ^ j := by
  have := Nat.two_pow_add_eq_or_of_lt h 1
  rw [Nat.mul_one] at this
  rw [Nat.or_comm, ← this, Nat.add_comm]
theorem en_below {m0 x y : Nat} : ∀ h, (∀ i, i < h → x.testBit i = y.testBit i) → en m0 x h = en m0 y h := by
  intro h
  induction h with
  | zero => intro _; rfl
  | succ h ih =>
    intro a
    unfold en
    rw [ih (fun i hi => a i (by omega)), a h (by omega)]
theorem en_put {m0 x h : Nat} : ∀ n, h < n → en m0 (x ||| 2 ^ h) n = if m0.testBit h = true then en m0 x n else en m0 x n ||| 2 ^ nm m0 h := by
  intro n
  induction n with
  | zero => intro a; omega
  | succ n ih =>
    intro hn
    have e : ∀ y, en m0 y (n + 1) = if m0.testBit n = true then en m0 y n else en m0 y n + (if y.testBit n = true then 2 ^ nm m0 n else 0) := fun _ => rfl
    rw [e, e]
    by_cases q : h = n
    · subst q
      have eb : en m0 (x ||| 2 ^ h) h = en m0 x h := en_below h (fun i hi => by
        rw [Nat.testBit_or, Nat.testBit_two_pow, decide_eq_false (by omega), Bool.or_false])
      have et : (x ||| 2 ^ h).testBit h = true := by rw [Nat.testBit_or, Nat.testBit_two_pow, decide_eq_true rfl, Bool.or_true]
      have hl := en_lt m0 x h
      rw [eb, et, if_pos rfl]
      by_cases c : m0.testBit h = true
      · rw [if_pos c, if_pos c, if_pos c]
      · rw [if_neg c, if_neg c, if_neg c]
        split
        · rw [← or_add hl, Nat.or_assoc, Nat.or_self]
        · rw [Nat.add_zero, or_add hl]
    · have et : (x ||| 2 ^ h).testBit n = x.testBit n := by rw [Nat.testBit_or, Nat.testBit_two_pow, decide_eq_false (by omega), Bool.or_false]
      rw [ih (by omega), et]
      by_cases c : m0.testBit n = true
      · rw [if_pos c, if_pos c]
      · rw [if_neg c, if_neg c]
        by_cases d : m0.testBit h = true
        · rw [if_pos d, if_pos d]
        · rw [if_neg d, if_neg d]
          have hl := en_lt m0 x n
          have hi := nm_in (n := n) (by omega : h < n) d
          have hl2 : 2 ^ nm m0 h < 2 ^ nm m0 n := Nat.pow_lt_pow_right (by decide) hi
          have hl3 : en m0 x n ||| 2 ^ nm m0 h < 2 ^ nm m0 n := Nat.or_lt_two_pow hl hl2
          split
          · rw [← or_add hl, ← or_add hl3, Nat.or_assoc, Nat.or_assoc, Nat.or_comm (2 ^ nm m0 h)]
          · rw [Nat.add_zero, Nat.add_zero]
/-! the longs -/
def inL (x : Int64) (s : Nat) : Prop := x.toBitVec.getLsbD s = true
theorem inL_lt {x : Int64} {s : Nat} (h : inL x s) : s < 64 := by
  unfold inL at h
  exact BitVec.lt_of_getLsbD h
theorem inL_0 {s : Nat} : ¬ inL 0 s := by
  unfold inL
  show ¬ (0#64).getLsbD s = true
  simp
theorem ne0_in {x : Int64} : ¬ x = 0 ↔ ∃ s, inL x s := by
  constructor
  · intro h
    apply Classical.byContradiction
    intro q
    apply h
    rw [← Int64.toBitVec_inj]
    apply BitVec.eq_of_getLsbD_eq
    intro i hi
    show _ = (0#64).getLsbD i
    have z : ¬ inL x i := fun z => q ⟨i, z⟩
    unfold inL at z
    simp at z ⊢
    exact z
  · rintro ⟨s, h⟩ e
    rw [e] at h
    exact inL_0 h
theorem inL_or {x y : Int64} {s : Nat} : inL (x ||| y) s ↔ inL x s ∨ inL y s := by
  unfold inL
  rw [Int64.toBitVec_or, BitVec.getLsbD_or, Bool.or_eq_true]
theorem inL_and {x y : Int64} {s : Nat} : inL (x &&& y) s ↔ inL x s ∧ inL y s := by
  unfold inL
  rw [Int64.toBitVec_and, BitVec.getLsbD_and, Bool.and_eq_true]
theorem inL_not {x : Int64} {s : Nat} (hs : s < 64) : inL (x ^^^ (-1)) s ↔ ¬ inL x s := by
  unfold inL
  rw [Int64.toBitVec_xor, BitVec.getLsbD_xor]
  have e : ((-1 : Int64)).toBitVec.getLsbD s = true := by
    have key : ∀ s : Fin 64, ((-1 : Int64)).toBitVec.getLsbD s.val = true := by decide +kernel
    exact key ⟨s, hs⟩
  rw [e]
  cases x.toBitVec.getLsbD s <;> simp
theorem inL_shl {x : Int64} {s : Nat} {k : Int} (hk : 0 ≤ k) (hk2 : k < 64) (hs : s < 64) : inL (lshl x k) s ↔ k.toNat ≤ s ∧ inL x (s - k.toNat) := by
  unfold inL
  rw [lshl_bv hk hk2, BitVec.getLsbD_shiftLeft, decide_eq_true hs, Bool.true_and, Bool.and_eq_true]
  simp
theorem inL_shr {x : Int64} {s : Nat} {k : Int} (hk : 0 ≤ k) (hk2 : k < 64) : inL (lushr x k) s ↔ inL x (k.toNat + s) := by
  unfold inL
  rw [lushr_bv x hk hk2, BitVec.getLsbD_ushiftRight]
theorem hold_in {i s : Nat} (hi : i < 6) (hs : s < 64) : inL (HOLD i) s ↔ s.testBit i = true := by
  have key : ∀ i : Fin 6, ∀ s : Fin 64, (HOLD ((i.val : Nat) : Int)).toBitVec.getLsbD s.val = s.val.testBit i.val := by decide +kernel
  unfold inL
  rw [key ⟨i, hi⟩ ⟨s, hs⟩]
theorem k_up : ∀ i : Fin 6, ∀ s : Fin 64, s.val.testBit i.val = false → s.val + 2 ^ i.val = s.val ||| 2 ^ i.val ∧ s.val + 2 ^ i.val < 64 ∧ (s.val ||| 2 ^ i.val).testBit i.val = true := by decide +kernel
theorem k_id : ∀ i : Fin 6, ∀ s : Fin 64, s.val.testBit i.val = true → s.val ||| 2 ^ i.val = s.val ∧ (s.val + 2 ^ i.val < 64 → (s.val + 2 ^ i.val).testBit i.val = false) := by decide +kernel
theorem k_dn : ∀ i : Fin 6, ∀ s : Fin 64, 2 ^ i.val ≤ s.val → (s.val - 2 ^ i.val).testBit i.val = !s.val.testBit i.val := by decide +kernel
theorem sh6 {i : Nat} (hi : i < 6) : ishl 1 (i : Int) = ((2 ^ i : Nat) : Int) ∧ 2 ^ i ≤ 32 := by
  have := ishl1 (c := (i : Int)) (by omega) (by omega)
  have h2 : 2 ^ i ≤ 2 ^ 5 := Nat.pow_le_pow_right (by decide) (by omega)
  rw [Int.toNat_natCast] at this
  exact ⟨this, h2⟩
theorem kk {i : Nat} (hi : i < 6) : ∃ p, 2 ^ i = p ∧ 1 ≤ p ∧ p ≤ 32 ∧ (∀ s, s < 64 → s.testBit i = false → s + p = s ||| p ∧ s + p < 64 ∧ (s ||| p).testBit i = true) ∧ ∀ s, s < 64 → s.testBit i = true → s ||| p = s ∧ (s + p < 64 → (s + p).testBit i = false) :=
  ⟨2 ^ i, rfl, Nat.one_le_two_pow, (sh6 hi).2, fun s hs h => k_up ⟨i, hi⟩ ⟨s, hs⟩ h, fun s hs h => k_id ⟨i, hi⟩ ⟨s, hs⟩ h⟩
theorem joined_in {x : Int64} {i s : Nat} (hi : i < 6) (hs : s < 64) : inL ((x &&& HOLD i) ||| lshl (x &&& (HOLD i ^^^ (-1))) (ishl 1 i)) s ↔ ∃ s0, inL x s0 ∧ s = s0 ||| 2 ^ i := by
  obtain ⟨es, -⟩ := sh6 hi
  obtain ⟨p, ep, p1, p2, u1, u2⟩ := kk hi
  rw [es, ep, inL_or, inL_and, inL_shl (by omega) (by omega) hs, inL_and, hold_in hi hs, Int.toNat_natCast]
  constructor
  · rintro (⟨a, b⟩ | ⟨a, b, c⟩)
    · exact ⟨s, a, (u2 s hs b).1.symm⟩
    · rw [inL_not (by omega), hold_in hi (by omega)] at c
      have q := u1 (s - p) (by omega) (Bool.eq_false_iff.2 c)
      refine ⟨s - p, b, ?_⟩
      rw [← q.1]
      omega
  · rintro ⟨s0, a, rfl⟩
    have h0 := inL_lt a
    by_cases c : s0.testBit i = true
    · left
      rw [(u2 s0 h0 c).1]
      exact ⟨a, c⟩
    · right
      have q := u1 s0 h0 (Bool.eq_false_iff.2 c)
      rw [← q.1, Nat.add_sub_cancel]
      refine ⟨by omega, a, ?_⟩
      rw [inL_not h0, hold_in hi h0]
      exact c
theorem before_in {x : Int64} {i s : Nat} (hi : i < 6) (hs : s < 64) : inL ((x &&& HOLD i) ||| lushr (x &&& HOLD i) (ishl 1 i)) s ↔ inL x (s ||| 2 ^ i) := by
  obtain ⟨es, -⟩ := sh6 hi
  obtain ⟨p, ep, p1, p2, u1, u2⟩ := kk hi
  rw [es, ep, inL_or, inL_and, inL_shr (by omega) (by omega), inL_and, hold_in hi hs, Int.toNat_natCast]
  by_cases c : s.testBit i = true
  · have q := u2 s hs c
    rw [q.1]
    constructor
    · rintro (⟨a, b⟩ | ⟨a, b⟩)
      · exact a
      · have hl := inL_lt a
        rw [hold_in hi hl] at b
        have q3 := q.2 (by omega)
        rw [Nat.add_comm] at b
        rw [b] at q3
        exact absurd q3 (by decide)
    · intro a; exact Or.inl ⟨a, c⟩
  · have q := u1 s hs (Bool.eq_false_iff.2 c)
    have q2 := q.2.1
    rw [Nat.add_comm, q.1]
    rw [q.1] at q2
    constructor
    · rintro (⟨a, b⟩ | ⟨a, b⟩)
      · exact absurd b c
      · exact a
    · intro a
      exact Or.inr ⟨a, by rw [hold_in hi q2]; exact q.2.2⟩
