/-! ===== the model's way of measles is the class's, but for a power of ten ===== -/
def fC (s : ST) (x c b : Int) : Int := if bitI (tSick s) c = 1 then (if b = 1 then 0 else 1) else (if b = 1 then x else 10 - x)
def wM (V : VT) (s : ST) (x m : Int) : Int := bw (fC s x) m (vN V).toNat
def toM (V : VT) (s : ST) (m : Int) : Int := if who V s m = -4 then tBell s else who V s m
def tS (V : VT) (s : ST) (x a : Int) : Int := sumN (fun m => if toM V s m = a then wM V s x m else 0) (2 ^ (vN V).toNat)
def sg (V : VT) (s : ST) : Int := cnt (fun c => decide (bitI (tSick s) c = 1)) (vN V).toNat
theorem prod_one (y : Int) (p : Int → Bool) : ∀ n : Nat, prodN (fun c => if p c = true then y else 1) n = pw y (cnt p n).toNat := by
  intro n
  induction n with
  | zero => rfl
  | succ n ih =>
    have hc := cnt_in p n
    show prodN _ n * (if p n = true then y else 1) = pw y (cnt p n + (if p n = true then 1 else 0)).toNat
    rw [ih]
    by_cases h : p n = true
    · rw [if_pos h, if_pos h, show (cnt p n + 1).toNat = (cnt p n).toNat + 1 by omega]; rfl
    · rw [if_neg h, if_neg h, Int.add_zero, Int.mul_one]
def cms (V : VT) (s : ST) (c : Int) : Bool := decide (0 ≤ tm V s c)
def lat (V : VT) (s : ST) (a c : Int) : Bool := decide (0 ≤ tm V s c ∧ (tm V s a < tm V s c ∨ (tm V s c = tm V s a ∧ a < c)))
theorem who_m (V : VT) (s : ST) (m : Int) (hn : 0 ≤ vN V) : IsLast (fun c => if bitI m c = 1 then -1 else tm V s c) (vN V) (who V s m) := by
  have h := (lst_spec (fun c => if bitI m c = 1 then -1 else tm V s c) (vN V).toNat).1
  rw [show (((vN V).toNat : Nat) : Int) = vN V by omega] at h
  exact h
def G1 (V : VT) (s : ST) (m c : Int) : Bool := decide (bitI m c = 1) || !cms V s c
def G2 (V : VT) (s : ST) (a m c : Int) : Bool := (!decide (c = a) || (!decide (bitI m c = 1) && cms V s a)) && (!lat V s a c || decide (bitI m c = 1))
theorem who_none {V : VT} {s : ST} {m : Int} (hn : 0 ≤ vN V) : who V s m = -4 ↔ ∀ c, 0 ≤ c → c < vN V → G1 V s m c = true := by
  have hl := who_m V s m hn
  unfold G1 cms
  constructor
  · intro e c c1 c2
    rcases hl with ⟨-, h⟩ | ⟨a1, -⟩
    · have := h c c1 c2
      dsimp only at this
      by_cases z : bitI m c = 1
      · rw [decide_eq_true z, Bool.true_or]
      · rw [if_neg z] at this
        rw [decide_eq_false z, Bool.false_or, decide_eq_false (by omega)]; rfl
    · omega
  · intro h
    rcases hl with ⟨e, -⟩ | ⟨a1, a2, a3, -⟩
    · exact e
    · exfalso
      have q := h _ a1 a2
      dsimp only at a3
      by_cases z : bitI m (who V s m) = 1
      · rw [if_pos z] at a3; omega
      · rw [if_neg z] at a3
        rw [decide_eq_false z, decide_eq_true a3] at q
        exact absurd q (by decide)
theorem who_is {V : VT} {s : ST} {m a : Int} (hn : 0 ≤ vN V) (ha : 0 ≤ a ∧ a < vN V) : who V s m = a ↔ ∀ c, 0 ≤ c → c < vN V → G2 V s a m c = true := by
  have hl := who_m V s m hn
  have g2 : ∀ c, G2 V s a m c = true ↔ ((c = a → ¬ bitI m c = 1 ∧ 0 ≤ tm V s a) ∧ ((0 ≤ tm V s c ∧ (tm V s a < tm V s c ∨ (tm V s c = tm V s a ∧ a < c))) → bitI m c = 1)) := by
    intro c
    unfold G2 cms lat
    by_cases e1 : c = a <;> by_cases e2 : bitI m c = 1 <;> by_cases e3 : 0 ≤ tm V s a <;> by_cases e4 : (0 ≤ tm V s c ∧ (tm V s a < tm V s c ∨ (tm V s c = tm V s a ∧ a < c))) <;> simp [e1, e2, e3, e4] <;> omega
  constructor
  · intro e c c1 c2
    rw [g2]
    rw [e] at hl
    rcases hl with ⟨z, -⟩ | ⟨a1, a2, a3, h⟩
    · omega
    · dsimp only at a3 h
      have hm : ¬ bitI m a = 1 := fun z => by rw [if_pos z] at a3; omega
      rw [if_neg hm] at a3 h
      refine ⟨fun z => by rw [z]; exact ⟨hm, a3⟩, fun z => Classical.byContradiction (fun w => ?_)⟩
      have := h c c1 c2
      rw [if_neg w] at this
      omega
  · intro h
    have h' := fun c c1 c2 => (g2 c).1 (h c c1 c2)
    obtain ⟨q1, q2⟩ := (h' a ha.1 ha.2).1 rfl
    refine hl.uniq (Or.inr ⟨ha.1, ha.2, ?_, fun c c1 c2 c3 => ?_⟩)
    · dsimp only; rw [if_neg q1]; exact q2
    · dsimp only at c3 ⊢
      rw [if_neg q1]
      by_cases z : bitI m c = 1
      · rw [if_pos z] at c3; omega
      · rw [if_neg z] at c3 ⊢
        have := (h' c c1 c2).2
        have : ¬ (0 ≤ tm V s c ∧ (tm V s a < tm V s c ∨ (tm V s c = tm V s a ∧ a < c))) := fun w => z (this w)
        omega
theorem tm_sick {V : VT} {s : ST} {c : Int} (h : bitI (tSick s) c = 1) : tm V s c = -1 := by
  unfold tm
  rw [if_pos h]
theorem tS_eq {V : VT} (hW : WFV V) (s : ST) {x a : Int} (hx : 0 ≤ x ∧ x ≤ 10) (ha : 0 ≤ a ∧ a < vN V) (hb : 0 ≤ tBell s ∧ tBell s < vN V) : tS V s x a * pw 10 (sg V s).toNat = tT V s x a := by
  have h7 := hW.2.1
  have hn := hW.1
  have eN : (((vN V).toNat : Nat) : Int) = vN V := by omega
  -- by a product for nobody, and one for a
  let G : Int → Int → Int := fun c b => fC s x c b * (if (decide (b = 1) || !cms V s c) = true then 1 else 0)
  let H : Int → Int → Int := fun c b => fC s x c b * (if ((!decide (c = a) || (!decide (b = 1) && cms V s a)) && (!lat V s a c || decide (b = 1))) = true then 1 else 0)
  have split : tS V s x a = (if a = tBell s then sumN (fun m => bw G m (vN V).toNat) (2 ^ (vN V).toNat) else 0) + sumN (fun m => bw H m (vN V).toNat) (2 ^ (vN V).toNat) := by
    have eG : ∀ m, bw G m (vN V).toNat = if who V s m = -4 then wM V s x m else 0 := by
      intro m
      have e : bw G m (vN V).toNat = bw (fC s x) m (vN V).toNat * prodN (fun c => if G1 V s m c = true then 1 else 0) (vN V).toNat := by
        unfold bw
        rw [prodN_mul]
        rfl
      rw [e]
      by_cases z : who V s m = -4
      · rw [if_pos z, prodN_1 _ _ (fun c c1 c2 => (who_none (by omega)).1 z c c1 (by omega)), Int.mul_one]; rfl
      · rw [if_neg z, prodN_0, Int.mul_zero]
        apply Classical.byContradiction
        intro q
        apply z
        rw [who_none (by omega)]
        intro c c1 c2
        apply Classical.byContradiction
        intro w
        exact q ⟨c, ⟨c1, by omega⟩, Bool.eq_false_iff.2 w⟩
    have eH : ∀ m, bw H m (vN V).toNat = if who V s m = a then wM V s x m else 0 := by
      intro m
      have e : bw H m (vN V).toNat = bw (fC s x) m (vN V).toNat * prodN (fun c => if G2 V s a m c = true then 1 else 0) (vN V).toNat := by
        unfold bw
        rw [prodN_mul]
        rfl
      rw [e]
      by_cases z : who V s m = a
      · rw [if_pos z, prodN_1 _ _ (fun c c1 c2 => (who_is (by omega) ha).1 z c c1 (by omega)), Int.mul_one]; rfl
      · rw [if_neg z, prodN_0, Int.mul_zero]
        apply Classical.byContradiction
        intro q
        apply z
        rw [who_is (by omega) ha]
        intro c c1 c2
        apply Classical.byContradiction
        intro w
        exact q ⟨c, ⟨c1, by omega⟩, Bool.eq_false_iff.2 w⟩
    unfold tS
    by_cases e : a = tBell s
    · rw [if_pos e, ← sumN_plus]
      refine sumN_cong _ (fun m _ _ => ?_)
      rw [eG, eH]
      unfold toM
      by_cases z : who V s m = -4
      · rw [if_pos z, if_pos e.symm, if_pos z, if_neg (show ¬ who V s m = a by omega), Int.add_zero]
      · rw [if_neg z, if_neg z, Int.zero_add]
    · rw [if_neg e, Int.zero_add]
      refine sumN_cong _ (fun m _ _ => ?_)
      rw [eH]
      unfold toM
      by_cases z : who V s m = -4
      · rw [if_pos z, if_neg (fun w => e w.symm), if_neg (show ¬ who V s m = a by omega)]
      · rw [if_neg z]
  rw [split, sum_prod G _ (by omega), sum_prod H _ (by omega), Int.add_mul]
  have sk : pw 10 (sg V s).toNat = prodN (fun c => if decide (bitI (tSick s) c = 1) = true then 10 else 1) (vN V).toNat := (prod_one 10 _ _).symm
  -- nobody
  have pG : prodN (fun c => G c 0 + G c 1) (vN V).toNat * pw 10 (sg V s).toNat = pw x (cmr V s).toNat * pw 10 (vN V - cmr V s).toNat := by
    rw [sk, prodN_mul]
    have e := prod_pw x (cms V s) (vN V).toNat
    rw [eN] at e
    have ec : cmr V s = cnt (cms V s) (vN V).toNat := rfl
    rw [ec, ← e]
    refine prodN_cong _ (fun c _ _ => ?_)
    show (fC s x c 0 * _ + fC s x c 1 * _) * _ = _
    unfold fC
    by_cases q : bitI (tSick s) c = 1
    · have : cms V s c = false := by unfold cms; rw [tm_sick q]; rfl
      rw [if_pos q, if_pos q, this, decide_eq_true q]
      simp
    · rw [if_neg q, if_neg q, decide_eq_false q]
      cases cms V s c <;> simp <;> omega
  -- a
  have pH : prodN (fun c => H c 0 + H c 1) (vN V).toNat * pw 10 (sg V s).toNat = if 0 ≤ tm V s a then (10 - x) * pw x (ltc V s a).toNat * pw 10 (vN V - 1 - ltc V s a).toNat else 0 := by
    rw [sk, prodN_mul]
    have hla : lat V s a a = false := decide_eq_false (by omega)
    have e := prod_pw1 x (if 0 ≤ tm V s a then 10 - x else 0) a (lat V s a) hla (vN V).toNat ha.1
    rw [if_pos (show a < (((vN V).toNat : Nat) : Int) by omega), eN] at e
    have ec : ltc V s a = cnt (lat V s a) (vN V).toNat := rfl
    have e2 : prodN (fun i => (H i 0 + H i 1) * (if decide (bitI (tSick s) i = 1) = true then 10 else 1)) (vN V).toNat = prodN (fun c => if c = a then (if 0 ≤ tm V s a then 10 - x else 0) else if lat V s a c = true then x else 10) (vN V).toNat := by
      refine prodN_cong _ (fun c _ _ => ?_)
      show (fC s x c 0 * _ + fC s x c 1 * _) * _ = _
      unfold fC
      by_cases ea : c = a
      · subst ea
        rw [if_pos rfl, hla]
        by_cases q : bitI (tSick s) c = 1
        · have h1 : tm V s c = -1 := tm_sick q
          have : cms V s c = false := by unfold cms; rw [h1]; rfl
          rw [if_pos q, if_pos q, this, decide_eq_true q, h1]
          simp
        · rw [if_neg q, if_neg q, decide_eq_false q]
          by_cases z : 0 ≤ tm V s c
          · have : cms V s c = true := decide_eq_true z
            rw [this, if_pos z]
            simp
          · have : cms V s c = false := decide_eq_false z
            rw [this, if_neg z]
            simp
      · rw [if_neg ea, decide_eq_false ea]
        by_cases q : bitI (tSick s) c = 1
        · have h1 : tm V s c = -1 := tm_sick q
          have : lat V s a c = false := by unfold lat; rw [h1]; exact decide_eq_false (by omega)
          rw [if_pos q, if_pos q, this, decide_eq_true q]
          simp
        · rw [if_neg q, if_neg q, decide_eq_false q]
          cases lat V s a c <;> simp <;> omega
    rw [e2, e, ec]
    by_cases z : 0 ≤ tm V s a
    · rw [if_pos z, if_pos z]
    · rw [if_neg z, if_neg z, Int.zero_mul, Int.zero_mul]
  rw [pH]
  unfold tT
  by_cases e : a = tBell s
  · rw [if_pos e, if_pos e, pG]
  · rw [if_neg e, if_neg e, Int.zero_mul]
