/-! ===== bits of ints ===== -/
theorem b31 : ∀ n, n < 32 → ((nI n &&& 31).toBitVec.smod 32).toNat = n := by decide +kernel
theorem ishl1 {c : Int} (h : 0 ≤ c) (h2 : c < 31) : ishl 1 c = ((2 ^ c.toNat : Nat) : Int) := by
  obtain ⟨n, rfl⟩ := Int.eq_ofNat_of_zero_le h
  have key : ∀ n : Fin 31, ishl 1 ((n.val : Nat) : Int) = ((2 ^ n.val : Nat) : Int) := by decide +kernel
  have := key ⟨n, by omega⟩
  simpa using this
theorem iI_natN {m : Nat} (h : m < 2147483648) : (Int32.ofNat m).toInt = (m : Int) := by
  rw [← iI_nat, iI_toInt ⟨by omega, by omega⟩]
theorem bitI_nat {m c : Nat} (hm : m < 2147483648) (hc : c < 31) : bitI m c = if m.testBit c then 1 else 0 := by
  unfold bitI iand ishr
  rw [iI_nat, iI_nat]
  have e1 : Int32.ofNat m >>> (Int32.ofNat c &&& 31) = Int32.ofNat (m / 2 ^ c) := pk_shrN hm _ c (b31 c (by omega))
  have h2 : m / 2 ^ c < 2147483648 := Nat.lt_of_le_of_lt (Nat.div_le_self _ _) hm
  rw [e1, iI_natN h2, iI_nat]
  have e2 : Int32.ofNat (m / 2 ^ c) &&& iI 1 = Int32.ofNat (m / 2 ^ c % 2) := pk_andN (n := m / 2 ^ c) (by omega) 1 (by decide)
  rw [e2, iI_natN (by omega), Nat.testBit_eq_decide_div_mod_eq]
  generalize m / 2 ^ c = q
  by_cases h : q % 2 = 1
  · rw [if_pos (by simpa using h)]
    omega
  · rw [if_neg (by simpa using h)]
    omega
theorem bv_natI (x : BitVec 32) (h : x.toNat < 2147483648) : x.toInt = (x.toNat : Int) := BitVec.toInt_eq_toNat_of_lt (by omega)
theorem ofNat_bv (m : Nat) : (Int32.ofNat m).toBitVec = BitVec.ofNat 32 m := rfl
theorem ior_nat {a b : Nat} (ha : a < 2147483648) (hb : b < 2147483648) : ior a b = ((a ||| b : Nat) : Int) := by
  unfold ior
  rw [iI_nat, iI_nat]
  have h1 : a ||| b < 2147483648 := Nat.or_lt_two_pow (n := 31) ha hb
  have e : (Int32.ofNat a ||| Int32.ofNat b).toBitVec = BitVec.ofNat 32 (a ||| b) := by
    show BitVec.ofNat 32 a ||| BitVec.ofNat 32 b = _
    apply BitVec.eq_of_toNat_eq
    simp only [BitVec.toNat_or, BitVec.toNat_ofNat]
    rw [Nat.mod_eq_of_lt (by omega), Nat.mod_eq_of_lt (by omega), Nat.mod_eq_of_lt (by omega)]
  show (Int32.ofNat a ||| Int32.ofNat b).toBitVec.toInt = _
  rw [e, bv_natI _ (by rw [BitVec.toNat_ofNat]; omega), BitVec.toNat_ofNat, Nat.mod_eq_of_lt (by omega)]
theorem ixor_nat {a b : Nat} (ha : a < 2147483648) (hb : b < 2147483648) : ixor a b = ((a ^^^ b : Nat) : Int) := by
  unfold ixor
  rw [iI_nat, iI_nat]
  have h1 : a ^^^ b < 2147483648 := Nat.xor_lt_two_pow (n := 31) ha hb
  have e : (Int32.ofNat a ^^^ Int32.ofNat b).toBitVec = BitVec.ofNat 32 (a ^^^ b) := by
    show BitVec.ofNat 32 a ^^^ BitVec.ofNat 32 b = _
    apply BitVec.eq_of_toNat_eq
    simp only [BitVec.toNat_xor, BitVec.toNat_ofNat]
    rw [Nat.mod_eq_of_lt (by omega), Nat.mod_eq_of_lt (by omega), Nat.mod_eq_of_lt (by omega)]
  show (Int32.ofNat a ^^^ Int32.ofNat b).toBitVec.toInt = _
  rw [e, bv_natI _ (by rw [BitVec.toNat_ofNat]; omega), BitVec.toNat_ofNat, Nat.mod_eq_of_lt (by omega)]
theorem iand_nat {a b : Nat} (ha : a < 2147483648) (hb : b < 2147483648) : iand a b = ((a &&& b : Nat) : Int) := by
  unfold iand
  rw [iI_nat, iI_nat]
  have h1 : a &&& b < 2147483648 := Nat.lt_of_le_of_lt Nat.and_le_left ha
  have e : (Int32.ofNat a &&& Int32.ofNat b).toBitVec = BitVec.ofNat 32 (a &&& b) := by
    show BitVec.ofNat 32 a &&& BitVec.ofNat 32 b = _
    apply BitVec.eq_of_toNat_eq
    simp only [BitVec.toNat_and, BitVec.toNat_ofNat]
    rw [Nat.mod_eq_of_lt (by omega), Nat.mod_eq_of_lt (by omega), Nat.mod_eq_of_lt (by omega)]
  show (Int32.ofNat a &&& Int32.ofNat b).toBitVec.toInt = _
  rw [e, bv_natI _ (by rw [BitVec.toNat_ofNat]; omega), BitVec.toNat_ofNat, Nat.mod_eq_of_lt (by omega)]
theorem p2_7 {c : Int} (h : 0 ≤ c) (h2 : c < 7) : ishl 1 c = ((2 ^ c.toNat : Nat) : Int) ∧ 2 ^ c.toNat < 128 := by
  refine ⟨ishl1 h (by omega), ?_⟩
  have : 2 ^ c.toNat ≤ 2 ^ 6 := Nat.pow_le_pow_right (by decide) (by omega)
  omega
theorem ixor_in {a c : Int} (ha : 0 ≤ a ∧ a < 128) (hc : 0 ≤ c ∧ c < 7) : 0 ≤ ixor a (ishl 1 c) ∧ ixor a (ishl 1 c) < 128 := by
  obtain ⟨n, rfl⟩ := Int.eq_ofNat_of_zero_le ha.1
  obtain ⟨e, h⟩ := p2_7 hc.1 hc.2
  rw [e, ixor_nat (by omega) (by omega)]
  have := Nat.xor_lt_two_pow (n := 7) (x := n) (y := 2 ^ c.toNat) (by omega) (by omega)
  omega
theorem ior_in {a c : Int} {k : Nat} (hk : k ≤ 7) (ha : 0 ≤ a ∧ a < (2 ^ k : Nat)) (hc : 0 ≤ c ∧ c < k) : 0 ≤ ior a (ishl 1 c) ∧ ior a (ishl 1 c) < (2 ^ k : Nat) := by
  obtain ⟨n, rfl⟩ := Int.eq_ofNat_of_zero_le ha.1
  obtain ⟨e, h⟩ := p2_7 hc.1 (by omega)
  have hp : 2 ^ k ≤ 2 ^ 7 := Nat.pow_le_pow_right (by decide) hk
  have h3 : 2 ^ c.toNat < 2 ^ k := Nat.pow_lt_pow_right (by decide) (by omega)
  rw [e, ior_nat (by omega) (by omega)]
  have := Nat.or_lt_two_pow (n := k) (x := n) (y := 2 ^ c.toNat) (by omega) h3
  omega
/-- how things may stand: at most B days gone by in a valley of n homes -/
def STB (B n : Int) (s : ST) : Prop := 0 ≤ tDay s ∧ tDay s ≤ B ∧ 0 ≤ tBell s ∧ tBell s < n ∧ (∀ h, 0 ≤ tSoup s h ∧ tSoup s h ≤ 7 * B) ∧ (0 ≤ tHeld s ∧ tHeld s < 128) ∧ (0 ≤ tSick s ∧ tSick s < 128) ∧ 0 ≤ tHad s ∧ tHad s < (2 ^ n.toNat : Nat)
theorem STB.mono {B B' n : Int} {s : ST} (h : STB B n s) (hB : B ≤ B') : STB B' n s := by
  obtain ⟨h1, h2, h3, h4, h5, h6⟩ := h
  exact ⟨h1, by omega, h3, h4, fun x => by have := h5 x; omega, h6⟩
theorem cmr_in {V : VT} (h : WFV V) (s : ST) : 0 ≤ cmr V s ∧ cmr V s ≤ 7 := by
  have := cnt_in (fun c => decide (0 ≤ tm V s c)) (vN V).toNat
  have h7 := h.2.1
  unfold cmr
  omega
theorem gby_in {V : VT} (h : WFV V) {B : Int} {s : ST} (hs : STB B (vN V) s) : STB (B + 1) (vN V) (gby V s) := by
  obtain ⟨h1, h2, h3, h4, h5, h6, h7, h8⟩ := hs
  have hc := cmr_in h s
  have hx := nxt_in h (s := s) ⟨h3, h4⟩
  refine ⟨?_, ?_, hx.1, hx.2, fun x => ?_, ⟨Int.le_refl 0, (by decide : (0 : Int) < 128)⟩, h7, ?_⟩
  · show 0 ≤ tDay s + 1; omega
  · show tDay s + 1 ≤ _; omega
  · have e : tSoup (gby V s) x = if x = tBell s then tSoup s x + cmr V s else tSoup s x := rfl
    have := h5 x
    rw [e]
    split <;> omega
  · show 0 ≤ ior (tHad s) (ishl 1 (nxt V s)) ∧ ior (tHad s) (ishl 1 (nxt V s)) < _
    have hn := h.1
    have hn7 := h.2.1
    exact ior_in (by omega) h8 ⟨hx.1, by omega⟩
theorem gbyN_in {V : VT} (h : WFV V) {B : Int} {s : ST} (hs : STB B (vN V) s) : ∀ k : Nat, STB (B + k) (vN V) (gbyN V k s) := by
  intro k
  induction k with
  | zero => simpa [gbyN] using hs
  | succ k ih =>
    have := gby_in h ih
    rw [show B + ((k + 1 : Nat) : Int) = B + k + 1 by omega]
    exact this
