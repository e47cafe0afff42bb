/-! ===== the model: its valley, a row, the minutes, who comes ===== -/
def shM (z a b : Int) : Bool := decide (0 ≤ a ∧ a < b ∧ b < 7) && decide (bitI z (b * (b - 1) / 2 + a) = 1)
def stR (f : Int → Int) : ST := mkS (f 1) (f 0) (f 2) (f 3) (f 5) (shM (f 4)) (fun h => if 0 ≤ h ∧ h < 7 then f (6 + h) else 0)
def vM (σ : MS) : VT := ((gI σ 0 12, gI σ 0 13), (fun h => if 0 ≤ h ∧ h < gI σ 0 12 then gI σ 8 h else 0), (fun h => if 0 ≤ h ∧ h < gI σ 0 12 then gI σ 9 h else 0),
  (fun a b => if 0 ≤ a ∧ a < gI σ 0 12 ∧ 0 ≤ b ∧ b < gI σ 0 12 ∧ ¬ a = b then gI σ 10 (7 * a + b) else 0),
  fun d a b => decide (0 ≤ a ∧ a < gI σ 0 12 ∧ 0 ≤ b ∧ b < gI σ 0 12 ∧ ¬ a = b ∧ gI σ 11 (7 * a + b) ≤ d ∧ d ≤ gI σ 12 (7 * a + b)))
def NM (σ : MS) (V : VT) : Prop := vM σ = V ∧ WFV V
theorem NM.fr {σ σ' : MS} {V : VT} {ks : List Nat} (h : NM σ V) (hF : Fr ks σ σ') (hk : ∀ k ∈ ks, 13 ≤ k ∨ (0 < k ∧ k < 8)) : NM σ' V := by
  have n : ∀ k, (k = 0 ∨ (8 ≤ k ∧ k ≤ 12)) → k ∉ ks := fun k hh q => by have := hk k q; omega
  refine ⟨?_, h.2⟩
  rw [← h.1]
  unfold vM
  rw [hF.gI (n 0 (by omega)), hF.gI (n 0 (by omega)), funext (hF.gI (n 8 (by omega))), funext (hF.gI (n 9 (by omega))), funext (hF.gI (n 10 (by omega))), funext (hF.gI (n 11 (by omega))), funext (hF.gI (n 12 (by omega)))]
theorem NM.n {σ : MS} {V : VT} (h : NM σ V) : gI σ 0 12 = vN V := by rw [← h.1]; rfl
theorem NM.m {σ : MS} {V : VT} (h : NM σ V) : gI σ 0 13 = vMost V := by rw [← h.1]; rfl
theorem NM.k {σ : MS} {V : VT} (h : NM σ V) {c : Int} (hc : 0 ≤ c ∧ c < vN V) : gI σ 8 c = vKind V c ∧ gI σ 9 c = vLate V c := by
  have hn := h.n
  have e1 : vKind V c = if 0 ≤ c ∧ c < gI σ 0 12 then gI σ 8 c else 0 := by rw [← h.1]; rfl
  have e2 : vLate V c = if 0 ≤ c ∧ c < gI σ 0 12 then gI σ 9 c else 0 := by rw [← h.1]; rfl
  rw [if_pos (by omega)] at e1 e2
  exact ⟨e1.symm, e2.symm⟩
theorem NM.w {σ : MS} {V : VT} (h : NM σ V) {a b : Int} (ha : 0 ≤ a ∧ a < vN V) (hb : 0 ≤ b ∧ b < vN V) (hab : ¬ a = b) : gI σ 10 (7 * a + b) = vWay V a b := by
  have hn := h.n
  have e1 : vWay V a b = if 0 ≤ a ∧ a < gI σ 0 12 ∧ 0 ≤ b ∧ b < gI σ 0 12 ∧ ¬ a = b then gI σ 10 (7 * a + b) else 0 := by rw [← h.1]; rfl
  rw [if_pos (by omega)] at e1
  exact e1.symm
theorem NM.sn {σ : MS} {V : VT} (h : NM σ V) {a b d : Int} (ha : 0 ≤ a ∧ a < vN V) (hb : 0 ≤ b ∧ b < vN V) (hab : ¬ a = b) : vSnow V d a b = true ↔ gI σ 11 (7 * a + b) ≤ d ∧ d ≤ gI σ 12 (7 * a + b) := by
  have hn := h.n
  have e1 : vSnow V d a b = decide (0 ≤ a ∧ a < gI σ 0 12 ∧ 0 ≤ b ∧ b < gI σ 0 12 ∧ ¬ a = b ∧ gI σ 11 (7 * a + b) ≤ d ∧ d ≤ gI σ 12 (7 * a + b)) := by rw [← h.1]; rfl
  rw [e1, decide_eq_true_iff]
  constructor
  · intro q; exact q.2.2.2.2.2
  · intro q; exact ⟨ha.1, by omega, hb.1, by omega, hab, q⟩
theorem sp_Mhas {z k : Int} {Q : Int → Prop} (h1 : bitI z k = 1 → Q 1) (h0 : ¬ bitI z k = 1 → Q 0) : wp_M_has z k Q := by
  unfold wp_M_has
  exact ⟨fun q => h0 q, fun q => h1 q⟩
theorem sp_Min {x a b : Int} {Q : Int → Prop} (h1 : a ≤ x ∧ x ≤ b → Q 1) (h0 : ¬ (a ≤ x ∧ x ≤ b) → Q 0) : wp_M_in x a b Q := by
  unfold wp_M_in
  exact ⟨fun c => h0 (by omega), fun c => ⟨fun c2 => h0 (by omega), fun c2 => h1 (by omega)⟩⟩
def prM (a b : Int) : Int := max a b * (max a b - 1) / 2 + min a b
theorem sq7 : ∀ a : Fin 7, 0 ≤ ((a.val : Nat) : Int) * (((a.val : Nat) : Int) - 1) ∧ ((a.val : Nat) : Int) * (((a.val : Nat) : Int) - 1) ≤ 30 := by decide +kernel
theorem sq7' {a : Int} (h : 0 ≤ a) (h2 : a < 7) : 0 ≤ a * (a - 1) ∧ a * (a - 1) ≤ 30 := by
  have := sq7 ⟨a.toNat, by omega⟩
  simp only [show ((a.toNat : Nat) : Int) = a by omega] at this
  exact this
theorem sp_Mpair {a b : Int} {Q : Int → Prop} (ha : 0 ≤ a ∧ a < 7) (hb : 0 ≤ b ∧ b < 7) (h : Q (prM a b)) : wp_M_pair a b Q := by
  have h1 := sq7' ha.1 ha.2
  have h2 := sq7' hb.1 hb.2
  unfold wp_M_pair
  unfold prM at h
  refine ⟨fun c => ⟨⟨h1.1, by omega⟩, ⟨by omega, by omega⟩, ?_⟩, fun c => ⟨⟨h2.1, by omega⟩, ⟨by omega, by omega⟩, ?_⟩⟩
  · rw [show max a b = a by omega, show min a b = b by omega] at h; exact h
  · rw [show max a b = b by omega, show min a b = a by omega] at h; exact h
theorem opn_M {σ : MS} {V : VT} (h : NM σ V) {a b d : Int} {z : Int} (ha : 0 ≤ a ∧ a < vN V) (hb : 0 ≤ b ∧ b < vN V) (hab : ¬ a = b) : opn V d (shM z) a b = true ↔ 0 < gI σ 10 (7 * a + b) ∧ ¬ (gI σ 11 (7 * a + b) ≤ d ∧ d ≤ gI σ 12 (7 * a + b)) ∧ ¬ bitI z (prM a b) = 1 := by
  have h7 := h.2.2.1
  unfold opn
  have e3 : shM z (min a b) (max a b) = decide (bitI z (prM a b) = 1) := by
    unfold shM prM
    rw [decide_eq_true (by omega), Bool.true_and]
  rw [Bool.and_eq_true, Bool.and_eq_true, decide_eq_true_iff, e3, ← h.w ha hb hab, Bool.not_eq_true', Bool.not_eq_true', decide_eq_false_iff_not, ← Bool.not_eq_true, h.sn ha hb hab]
theorem sp_isOpen {r : Nat} {σ : MS} {V : VT} {a b : Int} {Q : Int → Prop} (h : NM σ V) (ha : 0 ≤ a ∧ a < vN V) (hb : 0 ≤ b ∧ b < vN V) (hab : ¬ a = b) (hd : 0 ≤ gI σ r 1 ∧ gI σ r 1 < 2147483648)
    (h1 : opn V (tDay (stR (gI σ r)) % 28) (tShut (stR (gI σ r))) a b = true → Q 1) (h0 : ¬ opn V (tDay (stR (gI σ r)) % 28) (tShut (stR (gI σ r))) a b = true → Q 0) : wp_M_isOpen r a b σ Q := by
  have h7 := h.2.2.1
  have key := opn_M h (d := gI σ r 1 % 28) (z := gI σ r 4) ha hb hab
  have h1' : (0 < gI σ 10 (7 * a + b) ∧ ¬ (gI σ 11 (7 * a + b) ≤ gI σ r 1 % 28 ∧ gI σ r 1 % 28 ≤ gI σ 12 (7 * a + b)) ∧ ¬ bitI (gI σ r 4) (prM a b) = 1) → Q 1 := fun q => h1 (key.2 q)
  have h0' : ¬ (0 < gI σ 10 (7 * a + b) ∧ ¬ (gI σ 11 (7 * a + b) ≤ gI σ r 1 % 28 ∧ gI σ r 1 % 28 ≤ gI σ 12 (7 * a + b)) ∧ ¬ bitI (gI σ r 4) (prM a b) = 1) → Q 0 := fun q => h0 (fun z => q (key.1 z))
  unfold wp_M_isOpen
  intro x1 e1
  subst e1
  refine ⟨⟨by omega, by omega⟩, fun c => h0' (fun q => by omega), fun c => ⟨hd, ?_⟩⟩
  refine sp_Min (fun q => ⟨fun _ => h0' (fun z => z.2.1 q), fun z => absurd z (by decide)⟩) (fun q => ⟨fun z => absurd rfl z, fun _ => ?_⟩)
  refine sp_Mpair ⟨ha.1, by omega⟩ ⟨hb.1, by omega⟩ ?_
  exact sp_Mhas (fun z => ⟨fun _ => h0' (fun w => w.2.2 z), fun w => absurd w (by decide)⟩) (fun z => ⟨fun w => absurd rfl w, fun _ => h1' ⟨by omega, q, z⟩⟩)
theorem sumN_upd {f g : Int → Int} {x : Int} : ∀ n : Nat, (∀ i, ¬ i = x → g i = f i) → sumN g n = sumN f n + (if 0 ≤ x ∧ x < n then g x - f x else 0) := by
  intro n
  induction n with
  | zero => intro _; show (0 : Int) = 0 + _; rw [if_neg (by omega)]; rfl
  | succ n ih =>
    intro h
    show sumN g n + g n = sumN f n + f n + _
    rw [ih h]
    by_cases e : x = (n : Int)
    · subst e
      rw [if_neg (by omega), if_pos (by omega)]; omega
    · rw [h n (fun q => e q.symm)]
      by_cases q : 0 ≤ x ∧ x < n
      · rw [if_pos q, if_pos (by omega)]; omega
      · rw [if_neg q, if_neg (by omega)]; omega
theorem sumN_nn {f : Int → Int} : ∀ n : Nat, (∀ i : Int, 0 ≤ i → i < n → 0 ≤ f i) → 0 ≤ sumN f n := by
  intro n
  induction n with
  | zero => intro _; exact Int.le_refl _
  | succ n ih => intro h; exact Int.add_nonneg (ih (fun i i1 i2 => h i i1 (by omega))) (h n (by omega) (by omega))
theorem sumN_cong {f g : Int → Int} : ∀ n : Nat, (∀ i : Int, 0 ≤ i → i < n → f i = g i) → sumN f n = sumN g n := by
  intro n
  induction n with
  | zero => intro _; rfl
  | succ n ih => intro h; show sumN f n + f n = sumN g n + g n; rw [ih (fun i i1 i2 => h i i1 (by omega)), h n (by omega) (by omega)]
theorem sp_layMinutes {r : Nat} {σ : MS} {V : VT} {p : Int} {Q : MS → Prop} (hN : NM σ V) (hr : r = 13 ∨ r = 14) (hp : 0 ≤ p ∧ p < vN V) (hd : 0 ≤ gI σ r 1 ∧ gI σ r 1 < 2147483648)
    (h : ∀ σ', Fr [15] σ σ' → (∀ c, 0 ≤ c → c < vN V → gI σ' 15 c = dst V (tDay (stR (gI σ r)) % 28) (tShut (stR (gI σ r))) p c) → Q σ') : wp_M_layMinutes r p σ Q := by
  have hW := hN.2
  have hn1 := hW.1
  have h7 := hW.2.1
  have hs : ∀ s, Fr [15] σ s → stR (gI s r) = stR (gI σ r) := fun s hF => by rw [funext (hF.gI (k := r) (by rcases hr with e | e <;> rw [e] <;> decide))]
  have hrd : ∀ s, Fr [15] σ s → gI s r 1 = gI σ r 1 := fun s hF => hF.gI (k := r) (by rcases hr with e | e <;> rw [e] <;> decide) 1
  let d := tDay (stR (gI σ r)) % 28
  let sh := tShut (stR (gI σ r))
  have hE : ∀ a b, 0 ≤ eW V d sh a b ∧ eW V d sh a b ≤ 1000000 := eW_in hW d sh
  have hD := dst_in hW d sh
  -- what holds of the minutes all the time
  let J : MS → Prop := fun s => Fr [15] σ s ∧ (∀ c, 0 ≤ c → c < vN V → dst V d sh p c ≤ gI s 15 c ∧ gI s 15 c ≤ 1000000) ∧ gI s 15 p = 0
  unfold wp_M_layMinutes
  refine ⟨(fun x s => 0 ≤ x ∧ x ≤ vN V ∧ Fr [15] σ s ∧ ∀ c, 0 ≤ c → c < x → gI s 15 c = if c = p then 0 else 1000000), (fun x _ => (vN V - x).toNat), ⟨by omega, by omega, Fr.rf, fun c c1 c2 => by omega⟩, ?_⟩
  rintro x1 s1 ⟨g0, g1, hF1, hv1⟩
  rw [(hN.fr hF1 (by decide)).n]
  refine ⟨⟨by omega, by omega⟩, fun c => ?_, fun c => ⟨fun c1 => ⟨⟨by omega, by omega⟩, ?_⟩, fun c1 => ⟨⟨by omega, by omega⟩, ?_⟩⟩⟩
  rotate_left
  · intro s6 e6 x12 e12
    refine ⟨⟨by omega, by omega, by rw [e6]; exact hF1.tr (Fr.I (by decide) _ _), fun c' k1 k2 => ?_⟩, by dsimp only; omega⟩
    by_cases e : c' = x1
    · rw [e6, e, gI_eq, if_neg c1]
    · rw [e6, gI_nj e]; exact hv1 c' k1 (by omega)
  · intro s6 e6 x12 e12
    refine ⟨⟨by omega, by omega, by rw [e6]; exact hF1.tr (Fr.I (by decide) _ _), fun c' k1 k2 => ?_⟩, by dsimp only; omega⟩
    by_cases e : c' = x1
    · rw [e6, e, gI_eq, if_pos c1]
    · rw [e6, gI_nj e]; exact hv1 c' k1 (by omega)
  have dpp : dst V d sh p p = 0 := fw_self (fun a b => (hE a b).1) _ p
  have J1 : J s1 := by
    refine ⟨hF1, fun c' k1 k2 => ?_, by rw [hv1 p hp.1 (by omega), if_pos rfl]⟩
    rw [hv1 c' k1 (by omega)]
    by_cases e : c' = p
    · rw [if_pos e, e, dpp]; omega
    · rw [if_neg e]; have := hD p c'; omega
  let S : MS → Int := fun s => sumN (fun b => gI s 15 b) (vN V).toNat
  have Snn : ∀ s, J s → 0 ≤ S s := fun s hJ => sumN_nn _ (fun i i1 i2 => by have := hJ.2.1 i i1 (by omega); have := hD p i; omega)
  -- nothing more to shorten at a pair
  let K : MS → Int → Int → Prop := fun s a b => ¬ a = b → gI s 15 b ≤ gI s 15 a + eW V d sh a b
  refine ⟨(fun x s => (x = 0 ∨ x = 1) ∧ J s ∧ (x = 0 → ∀ a b, 0 ≤ a → a < vN V → 0 ≤ b → b < vN V → K s a b)), (fun x s => (2 * S s + x).toNat), ⟨Or.inr rfl, J1, fun q => absurd q (by decide)⟩, ?_⟩
  rintro x2 s2 ⟨g2, hJ2, hK2⟩
  refine ⟨⟨by omega, by omega⟩, fun c2 => ?_, fun c2 => ?_⟩
  · refine h s2 hJ2.1 (fun c' k1 k2 => ?_)
    have hk := hK2 c2
    have q := fw_fix (e := eW V d sh) (m := fun b => gI s2 15 b) (n := (vN V).toNat) (fun a b a1 a2 b1 b2 hab => hk a b a1 (by omega) b1 (by omega) hab) (vN V).toNat (Nat.le_refl _) p c' hp.1 (by omega) k1 (by omega)
    rw [hJ2.2.2] at q
    have q2 := (hJ2.2.1 c' k1 k2).1
    have e : dst V d sh p c' = fwE (eW V d sh) (vN V).toNat p c' := rfl
    show gI s2 15 c' = dst V d sh p c'
    omega
  · have hx2 : x2 = 1 := by omega
    subst hx2
    refine ⟨(fun x a s => (x = 0 ∨ x = 1) ∧ 0 ≤ a ∧ a ≤ vN V ∧ J s ∧ (x = 1 → S s < S s2) ∧ (x = 0 → (∀ j, gI s 15 j = gI s2 15 j) ∧ ∀ a' b', 0 ≤ a' → a' < a → 0 ≤ b' → b' < vN V → K s a' b')), (fun _ a _ => (vN V - a).toNat), ⟨Or.inl rfl, by omega, by omega, hJ2, fun q => absurd q (by decide), fun _ => ⟨fun _ => rfl, fun a' b' k1 k2 => by omega⟩⟩, ?_⟩
    rintro x3 x4 s3 ⟨g3, g4, g5, hJ3, hS3, hK3⟩
    rw [(hN.fr hJ3.1 (by decide)).n]
    refine ⟨⟨by omega, by omega⟩, fun c3 => ⟨⟨g3, hJ3, fun q a b a1 a2 b1 b2 => (hK3 q).2 a b a1 (by omega) b1 b2⟩, ?_⟩, fun c3 => ?_⟩
    · have n3 := Snn s3 hJ3
      rcases g3 with q | q
      · have : S s3 = S s2 := sumN_cong _ (fun i _ _ => (hK3 q).1 i)
        subst q
        dsimp only
        omega
      · have := hS3 q
        subst q
        dsimp only
        omega
    · refine ⟨(fun x b s => (x = 0 ∨ x = 1) ∧ 0 ≤ b ∧ b ≤ vN V ∧ J s ∧ (x = 1 → S s < S s2) ∧ (x = 0 → (∀ j, gI s 15 j = gI s2 15 j) ∧ ∀ a' b', 0 ≤ a' → (a' < x4 ∨ a' = x4 ∧ b' < b) → 0 ≤ b' → b' < vN V → K s a' b')), (fun _ b _ => (vN V - b).toNat), ⟨g3, by omega, by omega, hJ3, hS3, fun q => ⟨(hK3 q).1, fun a' b' k1 k2 k3 k4 => (hK3 q).2 a' b' k1 (by omega) k3 k4⟩⟩, ?_⟩
      rintro x5 x6 s4 ⟨g6, g7, g8, hJ4, hS4, hK4⟩
      have hN4 := hN.fr hJ4.1 (by decide)
      rw [hN4.n]
      have more : (¬ x4 = x6 → ¬ vN V ≤ x6 → gI s4 15 x6 ≤ gI s4 15 x4 + eW V d sh x4 x6) → ∀ x, x = x6 + 1 → (x5 = 0 → (∀ j, gI s4 15 j = gI s2 15 j) ∧ ∀ a' b', 0 ≤ a' → (a' < x4 ∨ a' = x4 ∧ b' < x) → 0 ≤ b' → b' < vN V → K s4 a' b') := by
        intro hk x ex q
        refine ⟨(hK4 q).1, fun a' b' k1 k2 k3 k4 hab => ?_⟩
        by_cases e : a' = x4 ∧ b' = x6
        · rw [e.1, e.2] at hab ⊢
          exact hk hab (by omega)
        · exact (hK4 q).2 a' b' k1 (by omega) k3 k4 hab
      refine ⟨⟨by omega, by omega⟩, fun c4 x7 e7 => ⟨⟨g6, by omega, by omega, hJ4, hS4, fun q => ⟨(hK4 q).1, fun a' b' k1 k2 k3 k4 => (hK4 q).2 a' b' k1 (by omega) k3 k4⟩⟩, by dsimp only; omega⟩, fun c4 => ⟨fun c5 x8 e8 => ⟨⟨g6, by omega, by omega, hJ4, hS4, more (fun z => absurd c5 z) x8 e8⟩, by dsimp only; omega⟩, fun c5 => ?_⟩⟩
      have ha : 0 ≤ x4 ∧ x4 < vN V := by omega
      have hb : 0 ≤ x6 ∧ x6 < vN V := by omega
      have ba := hJ4.2.1 x4 ha.1 ha.2
      have bb := hJ4.2.1 x6 hb.1 hb.2
      have da := hD p x4
      refine sp_isOpen hN4 ha hb c5 (by rw [hrd s4 hJ4.1]; exact hd) (fun ho => ⟨fun z => absurd z (by decide), fun _ => ?_⟩) (fun ho => ⟨fun _ x9 e9 => ⟨⟨g6, by omega, by omega, hJ4, hS4, more (fun _ _ => ?_) x9 e9⟩, by dsimp only; omega⟩, fun z => absurd rfl z⟩)
      rotate_left
      · rw [hs s4 hJ4.1] at ho
        have : eW V d sh x4 x6 = 1000000 := by unfold eW; rw [if_neg ho]
        omega
      · rw [hs s4 hJ4.1] at ho
        have ew : eW V d sh x4 x6 = vWay V x4 x6 := by unfold eW; rw [if_pos ho]
        rw [hN4.w ha hb c5, ← ew]
        have hEab := hE x4 x6
        refine ⟨⟨by omega, by omega⟩, ⟨by omega, by omega⟩, ⟨by omega, by omega⟩, ⟨by omega, by omega⟩, fun c6 x10 e10 => ⟨⟨g6, by omega, by omega, hJ4, hS4, more (fun _ _ => c6) x10 e10⟩, by dsimp only; omega⟩, fun c6 => ?_⟩
        intro s5 e5 x11 e11
        have hF5 : Fr [15] s4 s5 := by rw [e5]; exact Fr.I (by decide) _ _
        have hxp : ¬ x6 = p := fun z => by have := hJ4.2.2; rw [← z] at this; omega
        have tri : dst V d sh p x6 ≤ dst V d sh p x4 + eW V d sh x4 x6 := by
          have t1 := fw_tri (e := eW V d sh) (fun a b => (hE a b).1) (vN V).toNat x4.toNat (by omega) p x6
          rw [show ((x4.toNat : Nat) : Int) = x4 by omega] at t1
          have t2 := fw_le (eW V d sh) (vN V).toNat x4 x6
          have t3 : fwE (eW V d sh) 0 x4 x6 = eW V d sh x4 x6 := by
            show (if x4 = x6 then 0 else _) = _
            rw [if_neg c5]
          rw [t3] at t2
          have e1 : dst V d sh p x6 = fwE (eW V d sh) (vN V).toNat p x6 := rfl
          have e2 : dst V d sh p x4 = fwE (eW V d sh) (vN V).toNat p x4 := rfl
          omega
        have hJ5 : J s5 := by
          refine ⟨hJ4.1.tr hF5, fun c' k1 k2 => ?_, by rw [e5, gI_nj (fun z => hxp z.symm)]; exact hJ4.2.2⟩
          by_cases e : c' = x6
          · rw [e5, e, gI_eq]; omega
          · rw [e5, gI_nj e]; exact hJ4.2.1 c' k1 k2
        have hS5 : S s5 < S s4 := by
          have q := sumN_upd (f := fun b => gI s4 15 b) (g := fun b => gI s5 15 b) (x := x6) (vN V).toNat (fun i hi => by rw [e5]; exact gI_nj hi)
          have v : gI s5 15 x6 = gI s4 15 x4 + eW V d sh x4 x6 := by rw [e5, gI_eq]
          rw [if_pos (by omega), v] at q
          show sumN _ _ < sumN _ _
          omega
        have hS54 : S s5 < S s2 := by
          rcases g6 with q | q
          · have : S s4 = S s2 := sumN_cong _ (fun i _ _ => (hK4 q).1 i)
            omega
          · have := hS4 q; omega
        exact ⟨⟨Or.inr rfl, by omega, by omega, hJ5, fun _ => hS54, fun z => absurd z (by decide)⟩, by dsimp only; omega⟩
