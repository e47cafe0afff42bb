/-! ===== fewest minutes over ways: e a b the minutes from a to b, 10^6 where none ===== -/
def fwE (e : Int → Int → Int) : Nat → Int → Int → Int
  | 0, a, b => if a = b then 0 else e a b
  | k + 1, a, b => min (fwE e k a b) (fwE e k a k + fwE e k k b)
theorem fw_nn {e : Int → Int → Int} (he : ∀ a b, 0 ≤ e a b) : ∀ k a b, 0 ≤ fwE e k a b := by
  intro k
  induction k with
  | zero => intro a b; unfold fwE; split; exact Int.le_refl _; exact he a b
  | succ k ih =>
    intro a b
    have h1 := ih a b
    have h2 := ih a k
    have h3 := ih k b
    unfold fwE
    omega
theorem fw_mono (e : Int → Int → Int) (k : Nat) (a b : Int) : fwE e (k + 1) a b ≤ fwE e k a b := by
  show min _ _ ≤ _
  omega
theorem fw_le (e : Int → Int → Int) : ∀ k a b, fwE e k a b ≤ fwE e 0 a b := by
  intro k
  induction k with
  | zero => intro a b; exact Int.le_refl _
  | succ k ih => intro a b; exact Int.le_trans (fw_mono e k a b) (ih a b)
theorem fw_self {e : Int → Int → Int} (he : ∀ a b, 0 ≤ e a b) (k : Nat) (a : Int) : fwE e k a a = 0 := by
  have h1 := fw_nn he k a a
  have h2 := fw_le e k a a
  have h3 : fwE e 0 a a = 0 := by unfold fwE; rw [if_pos rfl]
  omega
theorem fw_sym {e : Int → Int → Int} (hs : ∀ a b, e a b = e b a) : ∀ k a b, fwE e k a b = fwE e k b a := by
  intro k
  induction k with
  | zero =>
    intro a b
    unfold fwE
    by_cases h : a = b
    · rw [if_pos h, if_pos h.symm]
    · rw [if_neg h, if_neg (fun q => h q.symm), hs]
  | succ k ih =>
    intro a b
    show min _ _ = min _ _
    rw [ih a b, ih a k, ih k b, Int.add_comm]
theorem fw_tri {e : Int → Int → Int} (he : ∀ a b, 0 ≤ e a b) : ∀ (k j : Nat), j < k → ∀ a c, fwE e k a c ≤ fwE e k a j + fwE e k j c := by
  intro k
  induction k with
  | zero => intro j h; omega
  | succ k ih =>
    intro j hj a c
    have n1 := fw_nn he k k j
    have n2 := fw_nn he k j k
    have n3 := fw_nn he k a k
    have n4 := fw_nn he k k c
    have n5 := fw_self he k (k : Int)
    by_cases hjk : j = k
    · subst hjk
      show min _ _ ≤ min _ _ + min _ _
      rw [n5]
      omega
    · have hlt : j < k := by omega
      have i1 := ih j hlt a c
      have i2 := ih j hlt a k
      have i3 := ih j hlt k c
      show min _ _ ≤ min _ _ + min _ _
      omega
/-- minutes that no way makes less are at most those of every walk -/
theorem fw_fix {e : Int → Int → Int} {m : Int → Int} {n : Nat} (h : ∀ a b : Int, 0 ≤ a → a < n → 0 ≤ b → b < n → ¬ a = b → m b ≤ m a + e a b) : ∀ k : Nat, k ≤ n → ∀ a b : Int, 0 ≤ a → a < n → 0 ≤ b → b < n → m b ≤ m a + fwE e k a b := by
  intro k
  induction k with
  | zero =>
    intro _ a b ha ha2 hb hb2
    unfold fwE
    split
    · next q => rw [q]; omega
    · next q => exact h a b ha ha2 hb hb2 q
  | succ k ih =>
    intro hk a b ha ha2 hb hb2
    have i1 := ih (by omega) a b ha ha2 hb hb2
    have i2 := ih (by omega) a k ha ha2 (by omega) (by omega)
    have i3 := ih (by omega) k b (by omega) (by omega) hb hb2
    show _ ≤ _ + min _ _
    omega
theorem fw_cong {e e' : Int → Int → Int} {n : Nat} (h : ∀ a b : Int, 0 ≤ a → a < n → 0 ≤ b → b < n → ¬ a = b → e a b = e' a b) : ∀ k : Nat, k ≤ n → ∀ a b : Int, 0 ≤ a → a < n → 0 ≤ b → b < n → fwE e k a b = fwE e' k a b := by
  intro k
  induction k with
  | zero =>
    intro _ a b ha ha2 hb hb2
    unfold fwE
    split
    · rfl
    · next q => exact h a b ha ha2 hb hb2 q
  | succ k ih =>
    intro hk a b ha ha2 hb hb2
    show min _ _ = min _ _
    rw [ih (by omega) a b ha ha2 hb hb2, ih (by omega) a k ha ha2 (by omega) (by omega), ih (by omega) k b (by omega) (by omega) hb hb2]
/-! ===== who is last: f c when c comes, below 0 if it doesn't ===== -/
def lst (f : Int → Int) : Nat → Int × Int
  | 0 => (-4, -1)
  | k + 1 => (if 0 ≤ f k ∧ (lst f k).2 ≤ f k then (k : Int) else (lst f k).1, if (lst f k).2 < f k then f k else (lst f k).2)
def IsLast (f : Int → Int) (n w : Int) : Prop :=
  (w = -4 ∧ ∀ c, 0 ≤ c → c < n → f c < 0) ∨ (0 ≤ w ∧ w < n ∧ 0 ≤ f w ∧ ∀ c, 0 ≤ c → c < n → 0 ≤ f c → f c < f w ∨ (f c = f w ∧ c ≤ w))
theorem IsLast.uniq {f : Int → Int} {n w v : Int} (h1 : IsLast f n w) (h2 : IsLast f n v) : w = v := by
  rcases h1 with ⟨rfl, h1⟩ | ⟨a1, a2, a3, h1⟩ <;> rcases h2 with ⟨rfl, h2⟩ | ⟨b1, b2, b3, h2⟩
  · rfl
  · have := h1 v b1 b2; omega
  · have := h2 w a1 a2; omega
  · have q1 := h1 v b1 b2 b3
    have q2 := h2 w a1 a2 a3
    omega
theorem lst_spec (f : Int → Int) : ∀ n : Nat, IsLast f n (lst f n).1 ∧ ((lst f n).1 = -4 → (lst f n).2 = -1) ∧ (¬ (lst f n).1 = -4 → (lst f n).2 = f (lst f n).1) ∧ -1 ≤ (lst f n).2 ∧ ((lst f n).1 = -4 ∨ 0 ≤ (lst f n).1) := by
  intro n
  induction n with
  | zero => exact ⟨Or.inl ⟨rfl, fun c h1 h2 => by omega⟩, fun _ => rfl, fun h => absurd rfl h, Int.le_refl _, Or.inl rfl⟩
  | succ k ih =>
    obtain ⟨h1, h2, h3, h4, h5⟩ := ih
    have e : lst f (k + 1) = (if 0 ≤ f k ∧ (lst f k).2 ≤ f k then (k : Int) else (lst f k).1, if (lst f k).2 < f k then f k else (lst f k).2) := rfl
    rw [e]
    generalize hp : lst f k = p at *
    obtain ⟨w, a⟩ := p
    dsimp only at *
    by_cases hc : 0 ≤ f k ∧ a ≤ f k
    · rw [if_pos hc]
      have ha : (if a < f k then f k else a) = f k := by split <;> omega
      rw [ha]
      refine ⟨Or.inr ⟨by omega, by omega, hc.1, fun c c1 c2 c3 => ?_⟩, fun q => by omega, fun _ => rfl, by omega, by omega⟩
      by_cases hck : c = k
      · subst hck; exact Or.inr ⟨rfl, Int.le_refl _⟩
      · have hlt : c < k := by omega
        rcases h1 with ⟨rfl, h1⟩ | ⟨b1, b2, b3, h1⟩
        · have := h1 c c1 hlt; omega
        · have q := h1 c c1 hlt c3
          have := h3 (by omega)
          omega
    · rw [if_neg hc]
      have ha : (if a < f k then f k else a) = a := by
        split
        · next q => exfalso; apply hc; omega
        · rfl
      rw [ha]
      refine ⟨?_, h2, h3, h4, h5⟩
      rcases h1 with ⟨rfl, h1⟩ | ⟨b1, b2, b3, h1⟩
      · refine Or.inl ⟨rfl, fun c c1 c2 => ?_⟩
        by_cases hck : c = k
        · subst hck; have := h2 rfl; omega
        · exact h1 c c1 (by omega)
      · refine Or.inr ⟨b1, by omega, b3, fun c c1 c2 c3 => ?_⟩
        by_cases hck : c = k
        · subst hck; have := h3 (by omega); omega
        · exact h1 c c1 (by omega) c3
theorem lst_eq {f : Int → Int} {n : Nat} {w : Int} (h : IsLast f n w) : (lst f n).1 = w := (lst_spec f n).1.uniq h
theorem IsLast.cong {f g : Int → Int} {n w : Int} (h : IsLast f n w) (hfg : ∀ c, 0 ≤ c → c < n → (f c = g c ∨ (f c < 0 ∧ g c < 0))) : IsLast g n w := by
  rcases h with ⟨rfl, h⟩ | ⟨h1, h2, h3, h4⟩
  · exact Or.inl ⟨rfl, fun c c1 c2 => by have := hfg c c1 c2; have := h c c1 c2; omega⟩
  · refine Or.inr ⟨h1, h2, by have := hfg w h1 h2; omega, fun c c1 c2 c3 => ?_⟩
    have q1 := hfg c c1 c2
    have q2 := hfg w h1 h2
    have q3 := h4 c c1 c2 (by omega)
    omega
def cnt (p : Int → Bool) : Nat → Int
  | 0 => 0
  | k + 1 => cnt p k + (if p k then 1 else 0)
theorem cnt_in (p : Int → Bool) : ∀ n : Nat, 0 ≤ cnt p n ∧ cnt p n ≤ n := by
  intro n
  induction n with
  | zero => exact ⟨Int.le_refl _, Int.le_refl _⟩
  | succ k ih =>
    show 0 ≤ cnt p k + _ ∧ cnt p k + _ ≤ _
    split <;> omega
theorem cnt_cong {p q : Int → Bool} : ∀ n : Nat, (∀ c : Int, 0 ≤ c → c < n → p c = q c) → cnt p n = cnt q n := by
  intro n
  induction n with
  | zero => intro _; rfl
  | succ k ih =>
    intro h
    show cnt p k + _ = cnt q k + _
    rw [ih (fun c h1 h2 => h c h1 (by omega)), h k (by omega) (by omega)]
