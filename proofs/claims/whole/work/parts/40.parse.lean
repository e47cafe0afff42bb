/-! ===== a text and what it tells ===== -/
/-- homes, bell, most; kind, late; ways by pair; snow by pair and day -/
abbrev DT : Type := (Int × Int × Int) × (Int → Int) × (Int → Int) × (Int → Int) × (Int → Int → Bool)
def dN (d : DT) : Int := d.1.1
def dB (d : DT) : Int := d.1.2.1
def dM (d : DT) : Int := d.1.2.2
def dK (d : DT) : Int → Int := d.2.1
def dL (d : DT) : Int → Int := d.2.2.1
def dW (d : DT) : Int → Int := d.2.2.2.1
def dS (d : DT) : Int → Int → Bool := d.2.2.2.2
def dt0 : DT := ((0, 0, 60), (fun _ => 0), (fun _ => 0), (fun _ => 0), fun _ _ => false)
def vOf (d : DT) : VT := ((dN d, dM d), (fun h => if 0 ≤ h ∧ h < dN d then dK d h else 0), (fun h => if 0 ≤ h ∧ h < dN d then dL d h else 0),
  (fun a b => if 0 ≤ a ∧ a < dN d ∧ 0 ≤ b ∧ b < dN d ∧ ¬ a = b then dW d (pr a b) else 0),
  fun t a b => decide (0 ≤ a ∧ a < dN d ∧ 0 ≤ b ∧ b < dN d ∧ ¬ a = b ∧ dS d (pr a b) t = true))
abbrev fig (x : Int) : Prop := 48 ≤ x ∧ x ≤ 57
/-- the letter at a place; a blank where there is none -/
def ltr (n : Int) (f : Int → Int) (p : Int) : Int := if 0 ≤ p ∧ p < n then f p else 32
/-- one number and what must stand behind it: the number, the place behind -/
def num (L : Int → Int) (p t : Int) : Option (Int × Int) :=
  if fig (L p) then
    if fig (L (p + 1)) then (if L (p + 2) = t then some (10 * (L p - 48) + (L (p + 1) - 48), p + 3) else none)
    else (if L (p + 1) = t then some (L p - 48, p + 2) else none)
  else none
def nums (L : Int → Int) (m : Nat) : Nat → Int → (Int → Int) → Option ((Int → Int) × Int)
  | 0, p, t => some (t, p)
  | j + 1, p, t => match num L p (if j = 0 then 59 else 44) with
    | none => none
    | some (v, q) => nums L m j q (fun i => if i = (m : Int) - (j + 1) then v else t i)
abbrev two (d : DT) (a b : Int) : Prop := (0 ≤ a ∧ a < dN d) ∧ (0 ≤ b ∧ b < dN d) ∧ ¬ a = b
def many (l : Int) : Nat := if l = 98 then 1 else if l = 104 then 2 else if l = 110 then 1 else if l = 115 then 4 else if l = 119 then 3 else 0
/-- what an item tells -/
def tl (l : Int) (t : Int → Int) (d : DT) : Option DT :=
  if l = 98 then (if t 0 < 7 then some ((dN d, t 0, dM d), dK d, dL d, dW d, dS d) else none)
  else if l = 104 then (if dN d < 7 ∧ t 0 ≤ 3 ∧ t 1 ≤ 40 then some ((dN d + 1, dB d, dM d), (fun i => if i = dN d then t 0 else dK d i), (fun i => if i = dN d then t 1 else dL d i), dW d, dS d) else none)
  else if l = 110 then (if 1 ≤ t 0 then some ((dN d, dB d, t 0), dK d, dL d, dW d, dS d) else none)
  else if l = 115 then (if two d (t 0) (t 1) ∧ t 2 ≤ t 3 ∧ t 3 < 28 then some ((dN d, dB d, dM d), dK d, dL d, dW d, fun p x => if p = pr (t 0) (t 1) then decide (t 2 ≤ x ∧ x ≤ t 3) else dS d p x) else none)
  else if l = 119 then (if two d (t 0) (t 1) ∧ 1 ≤ t 2 ∧ t 2 ≤ 60 then some ((dN d, dB d, dM d), dK d, dL d, (fun p => if p = pr (t 0) (t 1) then t 2 else dW d p), dS d) else none)
  else none
def item (L : Int → Int) (p : Int) (d : DT) : Option (Int × DT) :=
  if many (L p) = 0 then none else match nums L (many (L p)) (many (L p)) (p + 1) (fun _ => 0) with
    | none => none
    | some (t, q) => match tl (L p) t d with
      | none => none
      | some d' => some (q, d')
/-- the place of the first fault, -4 if there is none; what was told ahead of it -/
def prs (L : Int → Int) (n : Int) : Nat → Int → DT → Int × DT
  | 0, _, d => (-4, d)
  | k + 1, p, d => if n ≤ p then (-4, d) else match item L p d with
    | none => (p, d)
    | some (q, d') => prs L n k q d'
def rdT (A : AT) : Int × DT := prs (ltr (aTn A) (aTl A)) (aTn A) 200 0 dt0
def fFault (A : AT) : Int := (rdT A).1
def st0 (b : Int) : ST := mkS 0 b 0 0 (ishl 1 b) (fun _ _ => false) (fun _ => 0)
abbrev layOK (A : AT) : Prop := (rdT A).1 = -4 ∧ dB (rdT A).2 < dN (rdT A).2
def laidA (A : AT) (d : DT) : AT := (vOf d, st0 (dB d), (0, aUf A), (0, aKf A), (0, aEh A, aEd A), (aTn A, aTl A))
def nLay (A : AT) : AT := if layOK A then laidA A (rdT A).2 else A
def fLay (A : AT) : Int := if layOK A then dN (rdT A).2 else -2
/-! what holds of all that is told -/
def WFD (d : DT) : Prop := (0 ≤ dN d ∧ dN d ≤ 7) ∧ (0 ≤ dB d ∧ dB d < 7) ∧ (0 ≤ dM d ∧ dM d ≤ 99) ∧ (∀ i, 0 ≤ dK d i ∧ dK d i ≤ 3) ∧ (∀ i, 0 ≤ dL d i ∧ dL d i ≤ 40) ∧ (∀ p, 0 ≤ dW d p ∧ dW d p ≤ 60) ∧ ∀ p, ¬ dW d p = 0 → p / 7 < p % 7 ∧ p % 7 < dN d
theorem WFD0 : WFD dt0 := ⟨by decide, by decide, by decide, fun _ => ⟨Int.le_refl 0, by show (0 : Int) ≤ 3; omega⟩, fun _ => ⟨Int.le_refl 0, by show (0 : Int) ≤ 40; omega⟩, fun _ => ⟨Int.le_refl 0, by show (0 : Int) ≤ 60; omega⟩, fun _ h => absurd rfl h⟩
theorem num_in {L : Int → Int} {p t v q : Int} (h : num L p t = some (v, q)) : (0 ≤ v ∧ v ≤ 99) ∧ p < q ∧ q ≤ p + 3 := by
  unfold num at h
  by_cases c1 : fig (L p)
  · rw [if_pos c1] at h
    by_cases c2 : fig (L (p + 1))
    · rw [if_pos c2] at h
      by_cases c3 : L (p + 2) = t
      · rw [if_pos c3] at h
        injection h with h
        injection h with e1 e2
        unfold fig at c1 c2
        omega
      · rw [if_neg c3] at h; exact absurd h (by simp)
    · rw [if_neg c2] at h
      by_cases c3 : L (p + 1) = t
      · rw [if_pos c3] at h
        injection h with h
        injection h with e1 e2
        unfold fig at c1
        omega
      · rw [if_neg c3] at h; exact absurd h (by simp)
  · rw [if_neg c1] at h; exact absurd h (by simp)
theorem nums_in {L : Int → Int} {m : Nat} : ∀ {j : Nat} {p : Int} {t u : Int → Int} {q : Int}, nums L m j p t = some (u, q) → (∀ i, 0 ≤ t i ∧ t i ≤ 99) → (∀ i, 0 ≤ u i ∧ u i ≤ 99) ∧ p ≤ q := by
  intro j
  induction j with
  | zero =>
    intro p t u q h ht
    injection h with h
    injection h with e1 e2
    subst e1 e2
    exact ⟨ht, Int.le_refl _⟩
  | succ j ih =>
    intro p t u q h ht
    unfold nums at h
    split at h
    · exact absurd h (by simp)
    · rename_i v q' hn
      have hi := num_in hn
      have := ih h (fun i => by split; exact hi.1; exact ht i)
      exact ⟨this.1, by omega⟩
theorem tl_in {l : Int} {t : Int → Int} {d d' : DT} (h : tl l t d = some d') (ht : ∀ i, 0 ≤ t i ∧ t i ≤ 99) (hd : WFD d) : WFD d' := by
  obtain ⟨h1, h2, h3, h4, h5, h6, h7⟩ := hd
  have t0 := ht 0
  have t1 := ht 1
  have t2 := ht 2
  unfold tl at h
  split at h
  · split at h
    · rename_i c
      injection h with h
      subst h
      exact ⟨h1, ⟨t0.1, c⟩, h3, h4, h5, h6, h7⟩
    · exact absurd h (by simp)
  · split at h
    · split at h
      · rename_i c
        injection h with h
        subst h
        refine ⟨⟨?_, ?_⟩, h2, h3, fun i => ?_, fun i => ?_, h6, fun p hp => ?_⟩
        · show 0 ≤ dN d + 1; omega
        · show dN d + 1 ≤ 7; omega
        · show 0 ≤ (if i = dN d then t 0 else dK d i) ∧ (if i = dN d then t 0 else dK d i) ≤ 3
          split
          · omega
          · exact h4 i
        · show 0 ≤ (if i = dN d then t 1 else dL d i) ∧ (if i = dN d then t 1 else dL d i) ≤ 40
          split
          · omega
          · exact h5 i
        · show p / 7 < p % 7 ∧ p % 7 < dN d + 1
          have := h7 p hp
          omega
      · exact absurd h (by simp)
    · split at h
      · split at h
        · injection h with h
          subst h
          exact ⟨h1, h2, t0, h4, h5, h6, h7⟩
        · exact absurd h (by simp)
      · split at h
        · split at h
          · injection h with h
            subst h
            exact ⟨h1, h2, h3, h4, h5, h6, h7⟩
          · exact absurd h (by simp)
        · split at h
          · split at h
            · rename_i c
              injection h with h
              subst h
              refine ⟨h1, h2, h3, h4, h5, fun p => ?_, fun p hp => ?_⟩
              show 0 ≤ (if p = pr (t 0) (t 1) then t 2 else dW d p) ∧ (if p = pr (t 0) (t 1) then t 2 else dW d p) ≤ 60
              split
              · omega
              · exact h6 p
              have hp' : ¬ (if p = pr (t 0) (t 1) then t 2 else dW d p) = 0 := hp
              show p / 7 < p % 7 ∧ p % 7 < dN d
              by_cases e : p = pr (t 0) (t 1)
              · unfold two at c
                rw [e]
                unfold pr
                omega
              · rw [if_neg e] at hp'
                exact h7 p hp'
            · exact absurd h (by simp)
          · exact absurd h (by simp)
theorem item_in {L : Int → Int} {p q : Int} {d d' : DT} (h : item L p d = some (q, d')) (hd : WFD d) : WFD d' ∧ p < q := by
  unfold item at h
  split at h
  · exact absurd h (by simp)
  · split at h
    · exact absurd h (by simp)
    · rename_i t q' hn
      have hi := nums_in hn (fun _ => ⟨Int.le_refl 0, by decide⟩)
      split at h
      · exact absurd h (by simp)
      · rename_i d'' ht
        injection h with h
        injection h with e1 e2
        subst e1 e2
        exact ⟨tl_in ht hi.1 hd, by omega⟩
theorem prs_in {L : Int → Int} {n : Int} : ∀ (k : Nat) {p : Int} {d : DT}, WFD d → WFD (prs L n k p d).2 := by
  intro k
  induction k with
  | zero => intro p d h; exact h
  | succ k ih =>
    intro p d h
    unfold prs
    split
    · exact h
    · split
      · exact h
      · rename_i q d' hi
        exact ih (item_in hi h).1
theorem pr_sym (a b : Int) : pr a b = pr b a := by unfold pr; omega
theorem WFV_of {d : DT} (h : WFD d) (hb : dB d < dN d) : WFV (vOf d) := by
  obtain ⟨h1, h2, h3, h4, h5, h6, h7⟩ := h
  refine ⟨?_, h1.2, h3.1, h3.2, fun c => ?_, fun c => ?_, fun a b => ?_, fun t a b => ?_⟩
  · show 1 ≤ dN d; omega
  · have e : vKind (vOf d) c = if 0 ≤ c ∧ c < dN d then dK d c else 0 := rfl
    rw [e]
    split
    · exact h4 c
    · omega
  · have e : vLate (vOf d) c = if 0 ≤ c ∧ c < dN d then dL d c else 0 := rfl
    rw [e]
    split
    · exact h5 c
    · omega
  · have e : ∀ a b, vWay (vOf d) a b = if 0 ≤ a ∧ a < dN d ∧ 0 ≤ b ∧ b < dN d ∧ ¬ a = b then dW d (pr a b) else 0 := fun _ _ => rfl
    rw [e, e, pr_sym b a]
    by_cases q : 0 ≤ a ∧ a < dN d ∧ 0 ≤ b ∧ b < dN d ∧ ¬ a = b
    · rw [if_pos q, if_pos (by omega)]
      exact ⟨(h6 _).1, (h6 _).2, rfl⟩
    · rw [if_neg q, if_neg (by omega)]
      omega
  · show decide _ = decide _
    rw [pr_sym b a]
    congr 1
    exact propext ⟨fun ⟨a1, a2, a3, a4, a5, a6⟩ => ⟨a3, a4, a1, a2, fun e => a5 e.symm, a6⟩, fun ⟨a1, a2, a3, a4, a5, a6⟩ => ⟨a3, a4, a1, a2, fun e => a5 e.symm, a6⟩⟩
theorem st0_in {b n : Int} (hb : 0 ≤ b ∧ b < n) (hn : n ≤ 7) : STB 0 n (st0 b) := by
  refine ⟨Int.le_refl 0, Int.le_refl 0, hb.1, hb.2, fun _ => ⟨Int.le_refl 0, Int.le_refl 0⟩, ⟨Int.le_refl 0, by show (0 : Int) < 128; omega⟩, ⟨Int.le_refl 0, by show (0 : Int) < 128; omega⟩, ?_⟩
  show 0 ≤ ishl 1 b ∧ ishl 1 b < _
  rw [ishl1 hb.1 (by omega)]
  have : 2 ^ b.toNat < 2 ^ n.toNat := Nat.pow_lt_pow_right (by decide) (by omega)
  exact ⟨Int.natCast_nonneg _, Int.ofNat_lt.2 this⟩
theorem WF_lay {A : AT} {B : Int} (h : WF B A) (hB : 0 ≤ B) : WF B (nLay A) := by
  unfold nLay
  split
  · rename_i q
    have hd : WFD (rdT A).2 := prs_in 200 WFD0
    obtain ⟨h1, h2, h3, h4, h5, h6⟩ := h
    refine ⟨WFV_of hd q.2, (st0_in ⟨hd.2.1.1, q.2⟩ hd.1.2).mono hB, ⟨Int.le_refl 0, by show (0 : Int) ≤ 8; omega, fun i i1 i2 => ?_⟩, ⟨Int.le_refl 0, by show (0 : Int) ≤ 2; omega, fun i i1 i2 => ?_⟩, ⟨Int.le_refl 0, by show (0 : Int) ≤ 6; omega, fun i i1 i2 => ?_⟩, h6⟩
    · have i3 : i < 0 := i2; omega
    · have i3 : i < 0 := i2; omega
    · have i3 : i < 0 := i2; omega
  · exact h
