/-! ===== bits of longs ===== -/
theorem b64 : ∀ k : Fin 64, (((iI ((k.val : Nat) : Int)).toInt64 &&& 63).toBitVec.smod 64).toNat = k.val := by decide +kernel
theorem b64' {k : Int} (h : 0 ≤ k) (h2 : k < 64) : (((iI k).toInt64 &&& 63).toBitVec.smod 64).toNat = k.toNat := by
  have := b64 ⟨k.toNat, by omega⟩
  simp only [show ((k.toNat : Nat) : Int) = k by omega] at this
  exact this
theorem lshr_bv {k : Int} (h : 0 ≤ k) (h2 : k < 64) (x : Int64) : (lshr x k).toBitVec = x.toBitVec.sshiftRight k.toNat := by
  show x.toBitVec.sshiftRight' _ = _
  unfold BitVec.sshiftRight'
  rw [b64' h h2]
theorem lshl_bv {k : Int} (h : 0 ≤ k) (h2 : k < 64) (x : Int64) : (lshl x k).toBitVec = x.toBitVec <<< k.toNat := by
  show x.toBitVec <<< _ = _
  rw [← b64' h h2]
  rfl
theorem shb_bit {k : Int} (h : 0 ≤ k) (h2 : k < 64) (x : Int64) : shb x k = x.toBitVec.getLsbD k.toNat := by
  unfold shb
  have e : (lshr x k &&& (1 : Int64)) = 0 ↔ x.toBitVec.getLsbD k.toNat = false := by
    rw [← Int64.toBitVec_inj]
    have e1 : (lshr x k &&& (1 : Int64)).toBitVec = x.toBitVec.sshiftRight k.toNat &&& 1#64 := by
      rw [Int64.toBitVec_and, lshr_bv h h2]
      rfl
    rw [e1, BitVec.and_one_eq_setWidth_ofBool_getLsbD, BitVec.getLsbD_sshiftRight]
    rw [Nat.add_zero, if_pos (show k.toNat < 64 by omega)]
    generalize x.toBitVec.getLsbD k.toNat = b
    cases b <;> decide
  by_cases q : x.toBitVec.getLsbD k.toNat = false
  · rw [q, decide_eq_true (e.2 q)]; rfl
  · rw [decide_eq_false (fun z => q (e.1 z))]
    cases hb : x.toBitVec.getLsbD k.toNat
    · exact absurd hb q
    · rfl
theorem shb_xor {k p : Int} (h : 0 ≤ k) (h2 : k < 49) (hp : 0 ≤ p) (hp2 : p < 49) (x : Int64) : shb (x ^^^ lshl 1 p) k = if k = p then !shb x k else shb x k := by
  rw [shb_bit h (by omega), shb_bit h (by omega), Int64.toBitVec_xor, BitVec.getLsbD_xor, lshl_bv hp (by omega)]
  have e : ((1 : Int64).toBitVec <<< p.toNat).getLsbD k.toNat = decide (k = p) := by
    show ((1#64) <<< p.toNat).getLsbD k.toNat = _
    rw [BitVec.getLsbD_shiftLeft, BitVec.getLsbD_one]
    by_cases q : k = p
    · subst q; simp; omega
    · rw [decide_eq_false q]
      by_cases q2 : k.toNat < p.toNat
      · simp [q2]
      · simp; omega
  rw [e]
  by_cases q : k = p
  · rw [if_pos q, decide_eq_true q, Bool.xor_true]
  · rw [if_neg q, decide_eq_false q, Bool.xor_false]
theorem shOK_nat {x : Int64} (h : shOK x) : x.toBitVec.toNat < 562949953421312 ∧ x.toInt = (x.toBitVec.toNat : Int) := by
  have e : x.toInt = x.toBitVec.toInt := rfl
  have h1 := h.1
  have h2 := h.2.1
  rw [e] at h1 h2 ⊢
  rw [BitVec.toInt_eq_toNat_cond] at h1 h2 ⊢
  have := x.toBitVec.isLt
  split at h1 <;> rename_i c
  · rw [if_pos c] at h2 ⊢; exact ⟨by omega, rfl⟩
  · omega
theorem nat_shOK {x : Int64} (h : x.toBitVec.toNat < 562949953421312) (hb : ∀ p, 0 ≤ p → p < 49 → shb x p = true → p / 7 < p % 7) : shOK x := by
  have e : x.toInt = (x.toBitVec.toNat : Int) := by
    show x.toBitVec.toInt = _
    rw [BitVec.toInt_eq_toNat_cond, if_pos (by omega)]
  exact ⟨by omega, by omega, hb⟩
theorem shOK_xor {x : Int64} (h : shOK x) {p : Int} (hp : 0 ≤ p) (hp2 : p < 49) (hpp : p / 7 < p % 7) : shOK (x ^^^ lshl 1 p) := by
  refine nat_shOK ?_ (fun k k1 k2 hk => ?_)
  case refine_2 =>
    rw [shb_xor k1 k2 hp hp2] at hk
    by_cases e : k = p
    · rw [e]; exact hpp
    · rw [if_neg e] at hk; exact h.2.2 k k1 k2 hk
  rw [Int64.toBitVec_xor, BitVec.toNat_xor, lshl_bv hp (by omega)]
  have e : ((1 : Int64).toBitVec <<< p.toNat).toNat = 2 ^ p.toNat := by
    show ((1#64) <<< p.toNat).toNat = _
    have : 2 ^ p.toNat ≤ 2 ^ 48 := Nat.pow_le_pow_right (by decide) (by omega)
    rw [BitVec.toNat_shiftLeft, Nat.shiftLeft_eq]
    show 1 * _ % _ = _
    rw [Nat.one_mul, Nat.mod_eq_of_lt (by omega)]
  rw [e]
  have : 2 ^ p.toNat < 2 ^ 49 := Nat.pow_lt_pow_right (by decide) (by omega)
  exact Nat.xor_lt_two_pow (n := 49) (shOK_nat h).1 this
theorem shX_xor {a b : Int} (ha : 0 ≤ a) (ha2 : a < 7) (hb : 0 ≤ b) (hb2 : b < 7) (hab : ¬ a = b) (x : Int64) : shX (x ^^^ lshl 1 (pr a b)) = flip2 (shX x) a b := by
  have hp := pr_in ha ha2 hb hb2
  funext c d
  unfold flip2 shX
  by_cases q : 0 ≤ c ∧ c < d ∧ d < 7
  · rw [decide_eq_true q, Bool.true_and, Bool.true_and, shb_xor (by omega) (by omega) hp.1 hp.2]
    by_cases e : c = min a b ∧ d = max a b
    · rw [if_pos e, if_pos (by unfold pr; omega)]
    · rw [if_neg e, if_neg (by unfold pr; omega)]
  · rw [decide_eq_false q, Bool.false_and, Bool.false_and, if_neg (by omega)]
