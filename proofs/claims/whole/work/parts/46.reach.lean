/-! ===== what can be reached ===== -/
def rch (g : Int → Int → Int → Int) (n b : Int) (M0 : Nat) : Nat → Int → Nat → Prop
  | 0, h, x => h = b ∧ x = M0
  | t + 1, h, x => ∃ h0 x0 c, rch g n b M0 t h0 x0 ∧ (0 ≤ c ∧ c ≤ n) ∧ h = g t h0 c ∧ x = x0 ||| 2 ^ h.toNat
/-- what the search is about -/
def GX (g : Int → Int → Int → Int) (n b : Int) (M0 : Nat) : Prop := (1 ≤ n ∧ n ≤ 7) ∧ (0 ≤ b ∧ b < n) ∧ M0 < 2 ^ n.toNat ∧ M0.testBit b.toNat = true ∧ ∀ t h c, 0 ≤ h → h < n → 0 ≤ g t h c ∧ g t h c < n
def MX (n : Int) (M0 x : Nat) : Prop := x < 2 ^ n.toNat ∧ ∀ i, M0.testBit i = true → x.testBit i = true
theorem MX.put {n : Int} {M0 x : Nat} (h : MX n M0 x) {a : Int} (ha : 0 ≤ a ∧ a < n) : MX n M0 (x ||| 2 ^ a.toNat) := by
  refine ⟨Nat.or_lt_two_pow h.1 (Nat.pow_lt_pow_right (by decide) (by omega)), fun i hi => ?_⟩
  rw [Nat.testBit_or, h.2 i hi, Bool.true_or]
theorem rch_in {g : Int → Int → Int → Int} {n b : Int} {M0 : Nat} (hG : GX g n b M0) : ∀ (t : Nat) {h : Int} {x : Nat}, rch g n b M0 t h x → (0 ≤ h ∧ h < n) ∧ MX n M0 x := by
  intro t
  induction t with
  | zero =>
    rintro h x ⟨rfl, rfl⟩
    exact ⟨hG.2.1, hG.2.2.1, fun _ q => q⟩
  | succ t ih =>
    rintro h x ⟨h0, x0, c, a, b, rfl, rfl⟩
    have q := ih a
    have q2 := hG.2.2.2.2 t h0 c q.1.1 q.1.2
    exact ⟨q2, q.2.put q2⟩
theorem p7 {n : Int} (hn : 1 ≤ n ∧ n ≤ 7) {x : Nat} (h : x < 2 ^ n.toNat) : x < 128 := by
  have : 2 ^ n.toNat ≤ 2 ^ 7 := Nat.pow_le_pow_right (by decide) (by omega)
  omega
theorem ior_m {n : Int} (hn : 1 ≤ n ∧ n ≤ 7) {x : Nat} {h : Int} (hx : x < 2 ^ n.toNat) (hh : 0 ≤ h ∧ h < n) : ior (x : Int) (ishl 1 h) = ((x ||| 2 ^ h.toNat : Nat) : Int) := by
  have h1 := p7 hn hx
  obtain ⟨e, h2⟩ := p2_7 hh.1 (by omega)
  rw [e, ior_nat (by omega) (by omega)]
theorem full_iff {n : Int} (hn : 1 ≤ n ∧ n ≤ 7) {M0 x : Nat} (hx : MX n M0 x) : ((x : Int) = ishl 1 n - 1) ↔ en M0 x n.toNat = 2 ^ nm M0 n.toNat - 1 := by
  rw [en_full, ishl1 (by omega) (by omega)]
  have hp : 1 ≤ 2 ^ n.toNat := Nat.one_le_two_pow
  constructor
  · intro e i hi _
    have e2 : x = 2 ^ n.toNat - 1 := by
      generalize 2 ^ n.toNat = z at *
      omega
    rw [e2, Nat.testBit_two_pow_sub_one, decide_eq_true hi]
  · intro a
    have e2 : x = 2 ^ n.toNat - 1 := by
      apply Nat.eq_of_testBit_eq
      intro i
      rw [Nat.testBit_two_pow_sub_one]
      by_cases hi : i < n.toNat
      · rw [decide_eq_true hi]
        by_cases c : M0.testBit i = true
        · exact hx.2 i c
        · exact a i hi c
      · rw [decide_eq_false hi]
        exact Nat.testBit_lt_two_pow (Nat.lt_of_lt_of_le hx.1 (Nat.pow_le_pow_right (by decide) (by omega)))
    generalize 2 ^ n.toNat = z at *
    omega
theorem rch_pth {g : Int → Int → Int → Int} {n b : Int} {M0 : Nat} (hG : GX g n b M0) : ∀ (k t : Nat), (∃ h x, rch g n b M0 t h x ∧ pth g n k t h x) ↔ ∃ h x, rch g n b M0 (t + k) h x ∧ (x : Int) = ishl 1 n - 1 := by
  intro k
  induction k with
  | zero => intro t; exact Iff.rfl
  | succ k ih =>
    intro t
    rw [show t + (k + 1) = (t + 1) + k by omega, ← ih (t + 1)]
    constructor
    · rintro ⟨h, x, a, c, c1, c2, c3⟩
      have q := rch_in hG t a
      have q2 := hG.2.2.2.2 t h c q.1.1 q.1.2
      rw [ior_m hG.1 q.2.1 q2] at c3
      exact ⟨_, _, ⟨h, x, c, a, ⟨c1, c2⟩, rfl, rfl⟩, c3⟩
    · rintro ⟨_, _, ⟨h0, x0, c, a, c1, rfl, rfl⟩, d⟩
      have q := rch_in hG t a
      have q2 := hG.2.2.2.2 t h0 c q.1.1 q.1.2
      exact ⟨h0, x0, a, c, c1.1, c1.2, by rw [ior_m hG.1 q.2.1 q2]; exact d⟩
def stp (M0 : Nat) (h : Int) (s : Nat) : Nat := if M0.testBit h.toNat = true then s else s ||| 2 ^ nm M0 h.toNat
theorem en_stp {M0 x : Nat} {n h : Int} (hh : 0 ≤ h ∧ h < n) : en M0 (x ||| 2 ^ h.toNat) n.toNat = stp M0 h (en M0 x n.toNat) := by
  rw [en_put n.toNat (by omega)]
  rfl
/-- the search's numbers stand -/
def NUM (σ : MS) (n : Int) (M0 : Nat) : Prop := gI σ 25 6 = n ∧ gI σ 25 7 = ((2 ^ nm M0 n.toNat - 1 : Nat) : Int) ∧ ∀ h, 0 ≤ h → h < n → gI σ 29 h = if M0.testBit h.toNat = true then -4 else ((nm M0 h.toNat : Nat) : Int)
theorem NUM.fr {σ σ' : MS} {n : Int} {M0 : Nat} {ks : List Nat} (h : NUM σ n M0) (hF : Fr ks σ σ') (hk : ∀ k ∈ ks, ¬ k = 25 ∧ ¬ k = 29) : NUM σ' n M0 := by
  have n1 : 25 ∉ ks := fun q => (hk _ q).1 rfl
  have n2 : 29 ∉ ks := fun q => (hk _ q).2 rfl
  unfold NUM
  rw [hF.gI n1, hF.gI n1]
  simp only [hF.gI n2]
  exact h
theorem nm6 {n : Int} {M0 : Nat} {b : Int} (hn : 1 ≤ n ∧ n ≤ 7) (hb : 0 ≤ b ∧ b < n) (h : M0.testBit b.toNat = true) : nm M0 n.toNat ≤ 6 := by
  have := nm_lt (n := n.toNat) (by omega : b.toNat < n.toNat) h
  omega
theorem sp_joined {σ : MS} {y : Int64} {n b h : Int} {M0 : Nat} {Q : Int64 → Prop} (hn : 1 ≤ n ∧ n ≤ 7) (hb : 0 ≤ b ∧ b < n) (hM : M0.testBit b.toNat = true) (hU : NUM σ n M0) (hh : 0 ≤ h ∧ h < n)
    (hq : ∀ y', (∀ s, inL y' s ↔ ∃ s0, inL y s0 ∧ s = stp M0 h s0) → Q y') : wp_Search_joined y (gI σ 29 h) σ Q := by
  have hk := nm6 hn hb hM
  unfold wp_Search_joined
  rw [hU.2.2 h hh.1 hh.2]
  unfold stp at hq
  by_cases c : M0.testBit h.toNat = true
  · rw [if_pos c]
    simp only [if_pos c] at hq
    exact ⟨fun _ => hq y (fun s => ⟨fun q => ⟨s, q, rfl⟩, fun ⟨s0, q, e⟩ => by rw [e]; exact q⟩), fun q => absurd (by decide) q⟩
  · rw [if_neg c]
    simp only [if_neg c] at hq
    have hi := nm_in (n := n.toNat) (by omega) c
    refine ⟨fun q => by omega, fun _ => ⟨fun _ => ⟨⟨by omega, by omega⟩, fun y1 e1 => ?_⟩, fun q => by omega⟩⟩
    subst e1
    refine hq _ (fun s => ?_)
    by_cases hs : s < 64
    · exact joined_in (by omega) hs
    · constructor
      · intro q; exact absurd (inL_lt q) hs
      · rintro ⟨s0, q, rfl⟩
        exfalso
        apply hs
        refine Nat.or_lt_two_pow (n := 6) (inL_lt q) ?_
        exact Nat.pow_lt_pow_right (by decide) (by omega)
theorem sp_before {σ : MS} {y : Int64} {n b h : Int} {M0 : Nat} {Q : Int64 → Prop} (hn : 1 ≤ n ∧ n ≤ 7) (hb : 0 ≤ b ∧ b < n) (hM : M0.testBit b.toNat = true) (hU : NUM σ n M0) (hh : 0 ≤ h ∧ h < n)
    (hq : ∀ y', (∀ s, s < 64 → (inL y' s ↔ inL y (stp M0 h s))) → Q y') : wp_Search_before y (gI σ 29 h) σ Q := by
  have hk := nm6 hn hb hM
  unfold wp_Search_before
  rw [hU.2.2 h hh.1 hh.2]
  unfold stp at hq
  by_cases c : M0.testBit h.toNat = true
  · rw [if_pos c]
    simp only [if_pos c] at hq
    exact ⟨fun _ => hq y (fun s _ => Iff.rfl), fun q => absurd (by decide) q⟩
  · rw [if_neg c]
    simp only [if_neg c] at hq
    have hi := nm_in (n := n.toNat) (by omega) c
    refine ⟨fun q => by omega, fun _ => ⟨fun _ => ⟨⟨by omega, by omega⟩, fun y1 e1 => ?_⟩, fun q => by omega⟩⟩
    subst e1
    exact hq _ (fun s hs => before_in (by omega) hs)
theorem en64 {M0 x : Nat} {n b : Int} (hn : 1 ≤ n ∧ n ≤ 7) (hb : 0 ≤ b ∧ b < n) (h : M0.testBit b.toNat = true) : en M0 x n.toNat < 64 := by
  have h1 := en_lt M0 x n.toNat
  have h2 := nm6 hn hb h
  have h3 : 2 ^ nm M0 n.toNat ≤ 2 ^ 6 := Nat.pow_le_pow_right (by decide) h2
  omega
/-- row t of what can be reached stands -/
def RH (σ : MS) (g : Int → Int → Int → Int) (n b : Int) (M0 t : Nat) : Prop := ∀ h, 0 ≤ h → h < n → ∀ s, inL (gL σ 26 ((t : Int) * 7 + h)) s ↔ ∃ x, rch g n b M0 t h x ∧ en M0 x n.toNat = s
/-- row t of where the bell is next stands -/
def NX (σ : MS) (g : Int → Int → Int → Int) (n b : Int) (M0 t : Nat) : Prop := ∀ h c, 0 ≤ h → h < n → (∃ x, rch g n b M0 t h x) → 0 ≤ c → c ≤ n → gI σ 28 (((t : Int) * 7 + h) * 8 + c) = g t h c
theorem bit_u {x : Int64} {w : Int} (h : 0 ≤ w) (h2 : w < 64) : (lushr x w &&& (1 : Int64)) = 0 ↔ ¬ inL x w.toNat := by
  rw [← Int64.toBitVec_inj]
  have e1 : (lushr x w &&& (1 : Int64)).toBitVec = (x.toBitVec >>> w.toNat) &&& 1#64 := by
    rw [Int64.toBitVec_and, lushr_bv x h h2]
    rfl
  unfold inL
  rw [e1, BitVec.and_one_eq_setWidth_ofBool_getLsbD, BitVec.getLsbD_ushiftRight, Nat.add_zero]
  generalize x.toBitVec.getLsbD w.toNat = b
  cases b <;> decide
theorem sp_isWholeBy {σ : MS} {g : Int → Int → Int → Int} {n b : Int} {M0 t : Nat} {Q : Int → Prop} (hG : GX g n b M0) (hU : NUM σ n M0) (ht : t ≤ 28) (hR : RH σ g n b M0 t)
    (h1 : (∃ h x, rch g n b M0 t h x ∧ (x : Int) = ishl 1 n - 1) → Q 1) (h0 : (¬ ∃ h x, rch g n b M0 t h x ∧ (x : Int) = ishl 1 n - 1) → Q 0) : wp_Search_isWholeBy t σ Q := by
  have hn := hG.1
  have hk := nm6 hn hG.2.1 hG.2.2.2.1
  have hk2 : 2 ^ nm M0 n.toNat ≤ 2 ^ 6 := Nat.pow_le_pow_right (by decide) hk
  have hk3 : 1 ≤ 2 ^ nm M0 n.toNat := Nat.one_le_two_pow
  unfold wp_Search_isWholeBy
  refine ⟨(fun x => 0 ≤ x ∧ x ≤ n ∧ ∀ h x', h < x → rch g n b M0 t h x' → ¬ (x' : Int) = ishl 1 n - 1), (fun x => (n - x).toNat), ⟨by omega, by omega, fun h x' hx hr => by have := (rch_in hG t hr).1; omega⟩, ?_⟩
  rintro x1 ⟨g0, g1, g2⟩
  rw [hU.1, hU.2.1]
  refine ⟨⟨by omega, by omega⟩, fun c => h0 ?_, fun c => ⟨⟨by omega, by omega⟩, ?_⟩⟩
  · rintro ⟨h, x, a, e⟩
    exact g2 h x (by have := (rch_in hG t a).1; omega) a e
  · rw [bit_u (by omega) (by omega), Int.toNat_natCast, hR x1 g0 (by omega)]
    refine ⟨fun q x2 e2 => ⟨⟨by omega, by omega, fun h x' hx hr e => ?_⟩, by dsimp only; omega⟩, fun q => h1 ?_⟩
    · by_cases z : h = x1
      · subst z
        exact q ⟨x', hr, (full_iff hn (rch_in hG t hr).2).1 e⟩
      · exact g2 h x' (by omega) hr e
    · have q := Classical.not_not.1 q
      obtain ⟨x, a, e⟩ := q
      exact ⟨x1, x, a, (full_iff hn (rch_in hG t a).2).2 e⟩
