/-! ===== EACH: the fewest days behind which all is had; the first row of choices. g t h c: where the bell is behind day t at home h with choice c ===== -/
def pth (g : Int → Int → Int → Int) (n : Int) : Nat → Int → Int → Int → Prop
  | 0, _, _, m => m = ishl 1 n - 1
  | k + 1, t, h, m => ∃ c, 0 ≤ c ∧ c ≤ n ∧ pth g n k (t + 1) (g t h c) (ior m (ishl 1 (g t h c)))
def IsD (g : Int → Int → Int → Int) (n b m : Int) (D : Int) : Prop :=
  (D = -4 ∧ ∀ k : Nat, k ≤ 28 → ¬ pth g n k 0 b m) ∨ ∃ k : Nat, k ≤ 28 ∧ D = k ∧ pth g n k 0 b m ∧ ∀ j : Nat, j < k → ¬ pth g n j 0 b m
theorem IsD.uniq {g : Int → Int → Int → Int} {n b m D E : Int} (h1 : IsD g n b m D) (h2 : IsD g n b m E) : D = E := by
  rcases h1 with ⟨rfl, h1⟩ | ⟨k, k1, rfl, k2, k3⟩ <;> rcases h2 with ⟨rfl, h2⟩ | ⟨j, j1, rfl, j2, j3⟩
  · rfl
  · exact absurd j2 (h1 j j1)
  · exact absurd k2 (h2 k k1)
  · rcases Nat.lt_trichotomy k j with q | q | q
    · exact absurd k2 (j3 k q)
    · rw [q]
    · exact absurd j2 (k3 j q)
/-- the first choice at time t, home h, had m, from which all is had in k days more -/
def IsC (g : Int → Int → Int → Int) (n : Int) (k : Nat) (t h m c : Int) : Prop :=
  0 ≤ c ∧ c ≤ n ∧ pth g n k (t + 1) (g t h c) (ior m (ishl 1 (g t h c))) ∧ ∀ c', 0 ≤ c' → c' < c → ¬ pth g n k (t + 1) (g t h c') (ior m (ishl 1 (g t h c')))
theorem IsC.uniq {g : Int → Int → Int → Int} {n : Int} {k : Nat} {t h m c e : Int} (h1 : IsC g n k t h m c) (h2 : IsC g n k t h m e) : c = e := by
  obtain ⟨a1, a2, a3, a4⟩ := h1
  obtain ⟨b1, b2, b3, b4⟩ := h2
  rcases Int.lt_trichotomy c e with q | q | q
  · exact absurd a3 (b4 c a1 q)
  · exact q
  · exact absurd b3 (a4 e b1 q)
/-- where the first row of D days stands behind t of them -/
def trc (g : Int → Int → Int → Int) (n b m : Int) (D : Nat) : Nat → Int → Int → Prop
  | 0, h, x => h = b ∧ x = m
  | t + 1, h, x => ∃ h0 x0 c, trc g n b m D t h0 x0 ∧ IsC g n (D - t - 1) t h0 x0 c ∧ h = g t h0 c ∧ x = ior x0 (ishl 1 (g t h0 c))
theorem trc.uniq {g : Int → Int → Int → Int} {n b m : Int} {D : Nat} : ∀ (t : Nat) {h x h' x' : Int}, trc g n b m D t h x → trc g n b m D t h' x' → h = h' ∧ x = x' := by
  intro t
  induction t with
  | zero =>
    intro h x h' x' h1 h2
    exact ⟨h1.1.trans h2.1.symm, h1.2.trans h2.2.symm⟩
  | succ t ih =>
    rintro h x h' x' ⟨h0, x0, c, a1, a2, a3, a4⟩ ⟨k0, y0, e, b1, b2, b3, b4⟩
    obtain ⟨rfl, rfl⟩ := ih a1 b1
    obtain rfl := a2.uniq b2
    exact ⟨a3.trans b3.symm, a4.trans b4.symm⟩
def IsRow (g : Int → Int → Int → Int) (n b m : Int) (D t : Nat) (c : Int) : Prop := ∃ h x, trc g n b m D t h x ∧ IsC g n (D - t - 1) t h x c
theorem IsRow.uniq {g : Int → Int → Int → Int} {n b m : Int} {D t : Nat} {c e : Int} (h1 : IsRow g n b m D t c) (h2 : IsRow g n b m D t e) : c = e := by
  obtain ⟨h, x, a1, a2⟩ := h1
  obtain ⟨h', x', b1, b2⟩ := h2
  obtain ⟨rfl, rfl⟩ := trc.uniq t a1 b1
  exact a2.uniq b2
def rowV (c : Int) : Int := if c = 0 then -4 else c - 1
def chS (s : ST) (t h c : Int) : ST := mkS (tDay s + t) h (if c = 0 then 0 else ishl 1 (c - 1)) (tSick s) 0 (tShut s) (fun _ => 0)
def nx (V : VT) (s : ST) : Int → Int → Int → Int := fun t h c => nxt V (chS s t h c)
/-- what each(k) answers -/
def rEach (A : AT) (k r : Int) : Prop :=
  (¬ (0 ≤ k ∧ k ≤ 28) ∧ r = -1) ∨ (0 ≤ k ∧ k ≤ 28) ∧ ∃ D, IsD (nx (aV A) (aS A)) (vN (aV A)) (tBell (aS A)) (tHad (aS A)) D ∧
    ((D = -4 ∧ r = -4) ∨ ¬ D = -4 ∧ ((k = 0 ∧ r = D) ∨ (¬ k = 0 ∧ D < k ∧ r = -4) ∨ ¬ k = 0 ∧ k ≤ D ∧ ∃ c, IsRow (nx (aV A) (aS A)) (vN (aV A)) (tBell (aS A)) (tHad (aS A)) D.toNat (k - 1).toNat c ∧ r = rowV c))
theorem rEach.uniq {A : AT} {k r q : Int} (h1 : rEach A k r) (h2 : rEach A k q) : r = q := by
  rcases h1 with ⟨a, rfl⟩ | ⟨a, D, d1, h1⟩ <;> rcases h2 with ⟨b, rfl⟩ | ⟨b, E, e1, h2⟩
  · rfl
  · exact absurd b a
  · exact absurd a b
  · obtain rfl := d1.uniq e1
    rcases h1 with ⟨x1, rfl⟩ | ⟨x1, h1⟩ <;> rcases h2 with ⟨y1, rfl⟩ | ⟨y1, h2⟩
    · rfl
    · exact absurd x1 y1
    · exact absurd y1 x1
    · rcases h1 with ⟨u, rfl⟩ | ⟨u, u2, rfl⟩ | ⟨u, u2, c, u3, rfl⟩ <;> rcases h2 with ⟨w, rfl⟩ | ⟨w, w2, rfl⟩ | ⟨w, w2, e, w3, rfl⟩
      · rfl
      · exact absurd u w
      · exact absurd u w
      · exact absurd w u
      · rfl
      · omega
      · exact absurd w u
      · omega
      · rw [u3.uniq w3]
theorem chS_cong {s s' : ST} (h1 : tDay s' = tDay s) (h2 : tSick s' = tSick s) (h3 : tShut s' = tShut s) (t h c : Int) : chS s' t h c = chS s t h c := by
  unfold chS
  rw [h1, h2, h3]
theorem nx_cong {V : VT} {s s' : ST} (h1 : tDay s' = tDay s) (h2 : tSick s' = tSick s) (h3 : tShut s' = tShut s) : nx V s' = nx V s := by
  funext t h c
  unfold nx
  rw [chS_cong h1 h2 h3]
