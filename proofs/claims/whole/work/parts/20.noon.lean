/-! ===== the class: its valley, how things stand, the rules of a day ===== -/
def pr (a b : Int) : Int := min a b * 7 + max a b
def shb (x : Int64) (k : Int) : Bool := !decide ((lshr x k &&& (1 : Int64)) = 0)
def shX (x : Int64) (a b : Int) : Bool := decide (0 ≤ a ∧ a < b ∧ b < 7) && shb x (a * 7 + b)
def vC (σ : MS) (v : Nat) : VT := ((gI σ v 5, gI σ v 7), (fun h => if 0 ≤ h ∧ h < gI σ v 5 then gI σ (v + 1) h else 0), (fun h => if 0 ≤ h ∧ h < gI σ v 5 then gI σ (v + 2) h else 0),
  (fun a b => if 0 ≤ a ∧ a < gI σ v 5 ∧ 0 ≤ b ∧ b < gI σ v 5 ∧ ¬ a = b then gI σ (v + 3) (pr a b) else 0),
  fun d a b => decide (0 ≤ a ∧ a < gI σ v 5 ∧ 0 ≤ b ∧ b < gI σ v 5 ∧ ¬ a = b ∧ gI σ (v + 4) (pr a b) ≤ d ∧ d ≤ gI σ (v + 5) (pr a b)))
def stC (σ : MS) (s : Nat) : ST := mkS (gI σ s 1) (gI σ s 2) (gI σ s 3) (gI σ s 4) (gI σ s 5) (shX (gL σ s 6)) (fun h => if 0 ≤ h ∧ h < 7 then gI σ (s + 1) h else 0)
def shOK (x : Int64) : Prop := 0 ≤ x.toInt ∧ x.toInt < 562949953421312 ∧ ∀ p, 0 ≤ p → p < 49 → shb x p = true → p / 7 < p % 7
theorem shOK_ne {x : Int64} (h : shOK x) : ¬ x = -1 := by
  intro e
  rw [e] at h
  have h1 := h.1
  revert h1
  decide
theorem pr_in {a b : Int} (ha : 0 ≤ a) (ha2 : a < 7) (hb : 0 ≤ b) (hb2 : b < 7) : 0 ≤ pr a b ∧ pr a b < 49 := by
  unfold pr
  omega
theorem vC_cong {σ σ' : MS} {v : Nat} (h : ∀ k, v ≤ k → k ≤ v + 5 → ∀ j, gI σ' k j = gI σ k j) : vC σ' v = vC σ v := by
  unfold vC
  rw [h v (by omega) (by omega) 5, h v (by omega) (by omega) 7, funext (h (v + 1) (by omega) (by omega)), funext (h (v + 2) (by omega) (by omega)), funext (h (v + 3) (by omega) (by omega)), funext (h (v + 4) (by omega) (by omega)), funext (h (v + 5) (by omega) (by omega))]
theorem vC_Fr {σ σ' : MS} {v : Nat} {ks : List Nat} (hv : v = 1 ∨ v = 7) (h : Fr ks σ σ') (hk : ∀ k ∈ ks, 13 ≤ k ∨ k = 0) : vC σ' v = vC σ v :=
  vC_cong (fun k h1 h2 j => h.gI (fun q => by have := hk k q; omega) j)
theorem stC_cong {σ σ' : MS} {s s' : Nat} (h : ∀ j, gI σ' s' j = gI σ s j) (h2 : ∀ j, gL σ' s' j = gL σ s j) (h3 : ∀ j, gI σ' (s' + 1) j = gI σ (s + 1) j) : stC σ' s' = stC σ s := by
  unfold stC
  rw [h, h, h, h, h, h2, funext h3]
theorem stC_Fr {σ σ' : MS} {s : Nat} {ks : List Nat} (h : Fr ks σ σ') (hk : s ∉ ks ∧ s + 1 ∉ ks) : stC σ' s = stC σ s :=
  stC_cong (h.gI hk.1) (h.gL hk.1) (h.gI hk.2)
/-- the noon's part: it looks at a valley V, its fars are right where they are said to be -/
def NI (σ : MS) (V : VT) : Prop := (gR σ 17 2 = 1 ∨ gR σ 17 2 = 7) ∧ vC σ (gR σ 17 2) = V ∧ WFV V ∧
  ∀ d, 0 ≤ d → d < 28 → gL σ 19 d = -1 ∨ ∀ a b, 0 ≤ a → a < vN V → 0 ≤ b → b < vN V → gI σ 18 (d * 49 + a * 7 + b) = dst V d (shX (gL σ 19 d)) a b
theorem NI.Fr {σ σ' : MS} {V : VT} {ks : List Nat} (h : NI σ V) (hF : Fr ks σ σ') (hk : ∀ k ∈ ks, 20 ≤ k ∨ k = 0 ∨ (13 ≤ k ∧ k < 17)) : NI σ' V := by
  obtain ⟨h1, h2, h3, h4⟩ := h
  have n17 : 17 ∉ ks := fun q => by have := hk 17 q; omega
  have n18 : 18 ∉ ks := fun q => by have := hk 18 q; omega
  have n19 : 19 ∉ ks := fun q => by have := hk 19 q; omega
  have e := hF.gR n17 2
  refine ⟨by rw [e]; exact h1, ?_, h3, fun d d1 d2 => ?_⟩
  · rw [e, vC_Fr h1 hF (fun k q => by have := hk k q; omega)]
    exact h2
  · rw [hF.gL n19 d]
    rcases h4 d d1 d2 with q | q
    · exact Or.inl q
    · exact Or.inr (fun a b a1 a2 b1 b2 => by rw [hF.gI n18]; exact q a b a1 a2 b1 b2)
theorem NI.n {σ : MS} {V : VT} (h : NI σ V) : gI σ (gR σ 17 2) 5 = vN V := by rw [← h.2.1]; rfl
theorem NI.k17 {σ : MS} {V : VT} (h : NI σ V) {j v : Int} : NI (sI σ 17 j v) V := by
  obtain ⟨h1, h2, h3, h4⟩ := h
  have hg : ∀ k, ¬ k = 17 → ∀ i, gI (sI σ 17 j v) k i = gI σ k i := fun k hk i => gI_nk hk
  refine ⟨h1, ?_, h3, fun d d1 d2 => ?_⟩
  · show vC (sI σ 17 j v) (gR σ 17 2) = V
    rw [vC_cong (σ := σ) (fun k k1 k2 i => hg k (by rcases h1 with e | e <;> rw [e] at k2 <;> omega) i)]
    exact h2
  · show gL σ 19 d = -1 ∨ _
    rcases h4 d d1 d2 with q | q
    · exact Or.inl q
    · refine Or.inr (fun a b a1 a2 b1 b2 => ?_)
      rw [hg 18 (by decide)]
      exact q a b a1 a2 b1 b2
theorem NI.k20 {σ : MS} {V : VT} (h : NI σ V) {j v : Int} : NI (sI σ 20 j v) V := h.Fr (Fr.I (ks := [20]) (by decide) j v) (by decide)
/-- whether a way can be gone, as the class asks -/
def cgC (σ : MS) (v : Nat) (p d : Int) (x : Int64) : Prop := 0 < gI σ (v + 3) p ∧ ¬ (gI σ (v + 4) p ≤ d ∧ d ≤ gI σ (v + 5) p) ∧ (lshr x p &&& (1 : Int64)) = 0
theorem sp_canBeGone {v : Nat} {p d : Int} {x : Int64} {σ : MS} {Q : Int → Prop} (hp : 0 ≤ p ∧ p < 49) (h1 : cgC σ v p d x → Q 1) (h0 : ¬ cgC σ v p d x → Q 0) : wp_Valley_canBeGone v p d x σ Q := by
  unfold wp_Valley_canBeGone
  refine ⟨hp, fun c1 => ⟨fun c2 => h0 (fun q => ?_), fun c2 => ⟨fun c3 => h0 (fun q => c3 q.2.2), fun c3 => h1 ⟨by omega, by omega, c3⟩⟩⟩, fun c1 => ⟨fun c2 => ⟨fun c3 => h0 (fun q => ?_), fun c3 => ⟨fun c4 => h0 (fun q => c4 q.2.2), fun c4 => h1 ⟨by omega, by omega, c4⟩⟩⟩, fun c2 => ⟨fun c3 => h0 (fun q => ?_), fun c3 => h0 (fun q => q.2.1 ⟨by omega, by omega⟩)⟩⟩⟩
  · have := q.1; omega
  · have := q.1; omega
  · have := q.1; omega
theorem sp_pairOf {a b : Int} {Q : Int → Prop} (ha : 0 ≤ a ∧ a < 7) (hb : 0 ≤ b ∧ b < 7) (h : Q (pr a b)) : wp_B_pairOf a b Q := by
  unfold wp_B_pairOf
  exact ⟨⟨by omega, by omega⟩, h⟩
theorem opn_C {σ : MS} {v : Nat} {a b d : Int} {x : Int64} (hn : gI σ v 5 ≤ 7) (ha : 0 ≤ a ∧ a < gI σ v 5) (hb : 0 ≤ b ∧ b < gI σ v 5) (hab : ¬ a = b) : opn (vC σ v) d (shX x) a b = true ↔ cgC σ v (pr a b) d x := by
  have e1 : vWay (vC σ v) a b = gI σ (v + 3) (pr a b) := by
    show (if _ then _ else _) = _
    rw [if_pos ⟨ha.1, ha.2, hb.1, hb.2, hab⟩]
  have e2 : vSnow (vC σ v) d a b = decide (gI σ (v + 4) (pr a b) ≤ d ∧ d ≤ gI σ (v + 5) (pr a b)) := by
    show decide _ = decide _
    congr 1
    exact propext ⟨fun q => q.2.2.2.2.2, fun q => ⟨ha.1, ha.2, hb.1, hb.2, hab, q⟩⟩
  have e3 : shX x (min a b) (max a b) = shb x (pr a b) := by
    unfold shX
    rw [decide_eq_true (by omega), Bool.true_and]
    rfl
  unfold opn cgC
  rw [e1, e2, e3]
  unfold shb
  simp
  intro _ _
  omega
theorem vN_vC (σ : MS) (v : Nat) : vN (vC σ v) = gI σ v 5 := rfl
theorem sp_shortenBy {p1 p2 p3 n : Int} {σ : MS} {Q : MS → Prop} (hv : gR σ 17 2 = 1 ∨ gR σ 17 2 = 7) (en : gI σ (gR σ 17 2) 5 = n) (hn : 1 ≤ n ∧ n ≤ 7) (h1 : 0 ≤ p1 ∧ p1 < n) (h2 : 0 ≤ p2 ∧ p2 < n) (h3 : 0 ≤ p3 ∧ p3 ≤ 1323)
    (hr : ∀ a b, 0 ≤ a → a < n → 0 ≤ b → b < n → 0 ≤ gI σ 18 (p3 + a * 7 + b) ∧ gI σ 18 (p3 + a * 7 + b) ≤ 1000000)
    (h : ∀ σ', Fr [18] σ σ' → (∀ b, 0 ≤ b → b < n → gI σ' 18 (p3 + p2 * 7 + b) = min (gI σ 18 (p3 + p2 * 7 + b)) (gI σ 18 (p3 + p2 * 7 + p1) + gI σ 18 (p3 + p1 * 7 + b))) → (∀ j, (j < p3 + p2 * 7 ∨ p3 + p2 * 7 + n ≤ j) → gI σ' 18 j = gI σ 18 j) → Q σ') : wp_Noon_shortenBy p1 p2 p3 σ Q := by
  unfold wp_Noon_shortenBy
  refine ⟨⟨by omega, by omega⟩, (fun x s => 0 ≤ x ∧ x ≤ n ∧ Fr [18] σ s ∧ (∀ b, 0 ≤ b → b < x → gI s 18 (p3 + p2 * 7 + b) = min (gI σ 18 (p3 + p2 * 7 + b)) (gI σ 18 (p3 + p2 * 7 + p1) + gI σ 18 (p3 + p1 * 7 + b))) ∧ ∀ j, (j < p3 + p2 * 7 ∨ p3 + p2 * 7 + x ≤ j) → gI s 18 j = gI σ 18 j), (fun x _ => (n - x).toNat), ⟨by omega, by omega, Fr.rf, fun b b1 b2 => by omega, fun _ _ => rfl⟩, ?_⟩
  rintro x1 s1 ⟨g0, g1, hF, hd, ho⟩
  have e1 : gI s1 (gR s1 17 2) 5 = n := by
    rw [hF.gR (by decide) 2, hF.gI (by rcases hv with e | e <;> rw [e] <;> decide) 5]
    exact en
  rw [e1]
  refine ⟨⟨by omega, by omega⟩, fun c => h s1 hF (fun b b1 b2 => hd b b1 (by omega)) (fun j hj => ho j (by omega)), fun c => ⟨⟨by omega, by omega⟩, ?_⟩⟩
  intro x2 e2 x3 e3
  have r1 : gI s1 18 (p3 + p1 * 7 + x1) = gI σ 18 (p3 + p1 * 7 + x1) := ho _ (by
    rcases Int.lt_trichotomy p1 p2 with q | q | q <;> omega)
  have r2 : gI s1 18 x3 = gI σ 18 x3 := ho _ (by omega)
  have b1 := hr p2 p1 h2.1 h2.2 h1.1 h1.2
  have b2 := hr p1 x1 h1.1 h1.2 g0 (by omega)
  rw [r1] at e2
  refine ⟨⟨by omega, by omega⟩, ⟨by omega, by omega⟩, ?_⟩
  intro s2 e4 x4 e5
  subst e4
  refine ⟨⟨by omega, by omega, hF.tr (Fr.I (by decide) _ _), fun b b1 b2 => ?_, fun j hj => ?_⟩, by dsimp only; omega⟩
  · by_cases hb : b = x1
    · subst hb
      rw [← e3, gI_eq, r2, e2]
    · rw [gI_nj (by omega)]
      exact hd b b1 (by omega)
  · rw [gI_nj (by omega)]
    exact ho j (by omega)

theorem NI.way {σ : MS} {V : VT} (h : NI σ V) {a b : Int} (ha : 0 ≤ a ∧ a < vN V) (hb : 0 ≤ b ∧ b < vN V) (hab : ¬ a = b) : vWay V a b = gI σ ((gR σ 17 2) + 3) (pr a b) := by
  have hn := h.n
  rw [← h.2.1]
  show (if _ then _ else _) = _
  rw [if_pos ⟨ha.1, by omega, hb.1, by omega, hab⟩]
theorem NI.opn {σ : MS} {V : VT} (h : NI σ V) {a b d : Int} {x : Int64} (ha : 0 ≤ a ∧ a < vN V) (hb : 0 ≤ b ∧ b < vN V) (hab : ¬ a = b) : opn V d (shX x) a b = true ↔ cgC σ (gR σ 17 2) (pr a b) d x := by
  have hn := h.n
  have h7 := h.2.2.1.2.1
  have q := opn_C (σ := σ) (v := gR σ 17 2) (d := d) (x := x) (a := a) (b := b) (by omega) ⟨ha.1, by omega⟩ ⟨hb.1, by omega⟩ hab
  rw [h.2.1] at q
  exact q
theorem sp_readyFars {p1 : Int} {p2 : Int64} {V : VT} {σ : MS} {Q : Int → MS → Prop} (hN : NI σ V) (h0 : 0 ≤ p1 ∧ p1 < 2147483648) (hx : ¬ p2 = -1)
    (h : ∀ σ', Fr [18, 19] σ σ' → NI σ' V → (∀ a b, 0 ≤ a → a < vN V → 0 ≤ b → b < vN V → gI σ' 18 (p1 % 28 * 49 + a * 7 + b) = dst V (p1 % 28) (shX p2) a b) → Q (p1 % 28 * 49) σ') : wp_Noon_readyFars p1 p2 σ Q := by
  obtain ⟨hv, hV, hW, hc⟩ := id hN
  have hn1 := hW.1
  have hn7 := hW.2.1
  unfold wp_Noon_readyFars
  refine ⟨h0, ?_⟩
  intro d ed base eb
  have hd : 0 ≤ d ∧ d < 28 := by omega
  have hb : 0 ≤ base ∧ base ≤ 1323 := by omega
  have eN : ∀ s, Fr [18] σ s → gI s (gR s 17 2) 5 = vN V := by
    intro s hF
    have := (hN.n)
    rw [hF.gR (by decide) 2, hF.gI (by rcases hv with e | e <;> rw [e] <;> decide) 5]
    exact this
  refine ⟨hd, fun hne => ?_, fun heq => ?_⟩
  · let e := eW V d (shX p2)
    refine ⟨(fun x s => 0 ≤ x ∧ x ≤ vN V ∧ Fr [18] σ s ∧ (∀ a b, 0 ≤ a → a < x → 0 ≤ b → b < vN V → gI s 18 (base + a * 7 + b) = fwE e 0 a b) ∧ ∀ j, (j < base ∨ base + 49 ≤ j) → gI s 18 j = gI σ 18 j), (fun x _ => (vN V - x).toNat), ⟨by omega, by omega, Fr.rf, fun a b a1 a2 => by omega, fun _ _ => rfl⟩, ?_⟩
    rintro x3 s1 ⟨g0, g1, hF, hr, ho⟩
    rw [eN s1 hF]
    refine ⟨⟨by omega, by omega⟩, fun c1 => ?_, fun c1 => ?_⟩
    · -- the rows stand: now by each home
      refine ⟨(fun x s => 0 ≤ x ∧ x ≤ vN V ∧ Fr [18] σ s ∧ (∀ a b, 0 ≤ a → a < vN V → 0 ≤ b → b < vN V → gI s 18 (base + a * 7 + b) = fwE e x.toNat a b) ∧ ∀ j, (j < base ∨ base + 49 ≤ j) → gI s 18 j = gI σ 18 j), (fun x _ => (vN V - x).toNat), ⟨by omega, by omega, hF, fun a b a1 a2 b1 b2 => hr a b a1 (by omega) b1 b2, ho⟩, ?_⟩
      rintro x4 s2 ⟨g2, g3, hF2, hr2, ho2⟩
      rw [eN s2 hF2]
      refine ⟨⟨by omega, by omega⟩, fun c2 => ?_, fun c2 => ?_⟩
      · intro s3 e3
        refine ⟨⟨by omega, by omega⟩, ?_⟩
        have hx4 : x4 = vN V := by omega
        have hFF : Fr [18, 19] σ s3 := by
          rw [e3]
          exact (hF2.mono (by decide)).tr (Fr.L (by decide) _ _)
        have g18 : ∀ j, gI s3 18 j = gI s2 18 j := fun j => by rw [e3]; rfl
        have hval : ∀ a b, 0 ≤ a → a < vN V → 0 ≤ b → b < vN V → gI s3 18 (base + a * 7 + b) = dst V d (shX p2) a b := by
          intro a b a1 a2 b1 b2
          rw [g18, hr2 a b a1 a2 b1 b2, hx4]
          rfl
        rw [eb, ed]
        refine h s3 hFF ?_ (fun a b a1 a2 b1 b2 => by rw [← ed, ← eb]; exact hval a b a1 a2 b1 b2)
        have e17 := hFF.gR (k := 17) (by decide) 2
        refine ⟨by rw [e17]; exact hv, by rw [e17, vC_Fr hv hFF (by decide)]; exact hV, hW, fun d' d1 d2 => ?_⟩
        by_cases hdd : d' = d
        · subst hdd
          refine Or.inr (fun a b a1 a2 b1 b2 => ?_)
          rw [e3, gL_eq, ← eb, ← e3]
          exact hval a b a1 a2 b1 b2
        · have e19 : gL s3 19 d' = gL σ 19 d' := by
            rw [e3, gL_nj hdd]
            exact hF2.gL (by decide) d'
          rw [e19]
          rcases hc d' d1 d2 with q | q
          · exact Or.inl q
          · refine Or.inr (fun a b a1 a2 b1 b2 => ?_)
            rw [g18, ho2 _ (by omega)]
            exact q a b a1 a2 b1 b2
      · refine ⟨(fun x s => 0 ≤ x ∧ x ≤ vN V ∧ Fr [18] σ s ∧ (∀ a b, 0 ≤ a → a < vN V → 0 ≤ b → b < vN V → gI s 18 (base + a * 7 + b) = fwE e (if a < x then x4.toNat + 1 else x4.toNat) a b) ∧ ∀ j, (j < base ∨ base + 49 ≤ j) → gI s 18 j = gI σ 18 j), (fun x _ => (vN V - x).toNat), ⟨by omega, by omega, hF2, fun a b a1 a2 b1 b2 => by rw [if_neg (by omega)]; exact hr2 a b a1 a2 b1 b2, ho2⟩, ?_⟩
        rintro x5 s4 ⟨g4, g5, hF4, hr4, ho4⟩
        rw [eN s4 hF4]
        refine ⟨⟨by omega, by omega⟩, fun c3 => ?_, fun c3 => ?_⟩
        · intro x6 e6
          refine ⟨⟨by omega, by omega, hF4, fun a b a1 a2 b1 b2 => ?_, ho4⟩, by dsimp only; omega⟩
          rw [hr4 a b a1 a2 b1 b2, if_pos (by omega), show x6.toNat = x4.toNat + 1 by omega]
        · refine ⟨⟨by omega, by omega⟩, ?_⟩
          have hv4 : gR s4 17 2 = gR σ 17 2 := hF4.gR (by decide) 2
          refine sp_shortenBy (n := vN V) (by rw [hv4]; exact hv) (eN s4 hF4) ⟨by omega, by omega⟩ ⟨by omega, by omega⟩ ⟨by omega, by omega⟩ hb (fun a b a1 a2 b1 b2 => by rw [hr4 a b a1 a2 b1 b2]; exact fw_in hW d (shX p2) _ a b) (fun s5 hF5 hd5 ho5 => ?_)
          intro x7 e7
          refine ⟨⟨by omega, by omega, hF4.tr hF5, fun a b a1 a2 b1 b2 => ?_, fun j hj => by rw [ho5 j (by omega)]; exact ho4 j hj⟩, by dsimp only; omega⟩
          by_cases ha : a = x5
          · subst ha
            rw [if_pos (by omega), hd5 b b1 b2, hr4 a b a1 a2 b1 b2, if_neg (by omega), hr4 a x4 a1 a2 (by omega) (by omega), if_neg (by omega), hr4 x4 b (by omega) (by omega) b1 b2]
            show _ = min _ (_ + _)
            rw [show ((x4.toNat : Nat) : Int) = x4 by omega]
            congr 2
            split
            · show min _ (_ + _) = _
              rw [show ((x4.toNat : Nat) : Int) = x4 by omega, fw_self (fun a b => (eW_in hW d (shX p2) a b).1) x4.toNat x4]
              omega
            · rfl
          · have hj : gI s5 18 (base + a * 7 + b) = gI s4 18 (base + a * 7 + b) := ho5 _ (by
              rcases Int.lt_trichotomy a x5 with q | q | q <;> omega)
            rw [hj, hr4 a b a1 a2 b1 b2]
            by_cases hl : a < x5
            · rw [if_pos hl, if_pos (by omega)]
            · rw [if_neg hl, if_neg (by omega)]
    · -- a row more
      refine ⟨(fun x s => 0 ≤ x ∧ x ≤ vN V ∧ Fr [18] σ s ∧ (∀ a b, 0 ≤ a → a < x3 → 0 ≤ b → b < vN V → gI s 18 (base + a * 7 + b) = fwE e 0 a b) ∧ (∀ b, 0 ≤ b → b < x → gI s 18 (base + x3 * 7 + b) = fwE e 0 x3 b) ∧ ∀ j, (j < base ∨ base + 49 ≤ j) → gI s 18 j = gI σ 18 j), (fun x _ => (vN V - x).toNat), ⟨by omega, by omega, hF, hr, fun b b1 b2 => by omega, ho⟩, ?_⟩
      rintro x8 s6 ⟨g6, g7, hF6, hr6, hq6, ho6⟩
      rw [eN s6 hF6]
      have fin : ∀ (s : MS) (x : Int), s = sI s6 18 (base + x3 * 7 + x8) (fwE e 0 x3 x8) → x = x8 + 1 → x8 < vN V → 0 ≤ x ∧ x ≤ vN V ∧ Fr [18] σ s ∧ (∀ a b, 0 ≤ a → a < x3 → 0 ≤ b → b < vN V → gI s 18 (base + a * 7 + b) = fwE e 0 a b) ∧ (∀ b, 0 ≤ b → b < x → gI s 18 (base + x3 * 7 + b) = fwE e 0 x3 b) ∧ ∀ j, (j < base ∨ base + 49 ≤ j) → gI s 18 j = gI σ 18 j := by
        intro s x es ex hlt
        subst es
        refine ⟨by omega, by omega, hF6.tr (Fr.I (by decide) _ _), fun a b a1 a2 b1 b2 => ?_, fun b b1 b2 => ?_, fun j hj => ?_⟩
        · rw [gI_nj (by omega)]; exact hr6 a b a1 a2 b1 b2
        · by_cases hbx : b = x8
          · subst hbx; exact gI_eq
          · rw [gI_nj (by omega)]; exact hq6 b b1 (by omega)
        · rw [gI_nj (by omega)]; exact ho6 j hj
      refine ⟨⟨by omega, by omega⟩, fun c2 => ?_, fun c2 => ?_⟩
      · intro x9 e9
        refine ⟨⟨by omega, by omega, hF6, fun a b a1 a2 b1 b2 => ?_, ho6⟩, by dsimp only; omega⟩
        by_cases ha : a = x3
        · subst ha; exact hq6 b b1 (by omega)
        · exact hr6 a b a1 (by omega) b1 b2
      · have hp := pr_in (a := x3) (b := x8) (by omega) (by omega) (by omega) (by omega)
        refine sp_pairOf ⟨by omega, by omega⟩ ⟨by omega, by omega⟩ ?_
        have hv6 : gR s6 17 2 = gR σ 17 2 := hF6.gR (by decide) 2
        have hN6 : ∀ k, k = gR σ 17 2 + 3 ∨ k = gR σ 17 2 + 4 ∨ k = gR σ 17 2 + 5 → ∀ j, gI s6 k j = gI σ k j := fun k hk j => hF6.gI (by rcases hv with q | q <;> rw [q] at hk <;> (rcases hk with rfl | rfl | rfl <;> decide)) j
        have hcg : cgC s6 (gR s6 17 2) (pr x3 x8) d p2 ↔ cgC σ (gR σ 17 2) (pr x3 x8) d p2 := by
          unfold cgC
          rw [hv6, hN6 _ (Or.inl rfl), hN6 _ (Or.inr (Or.inl rfl)), hN6 _ (Or.inr (Or.inr rfl))]
        have hself : x3 = x8 → fwE e 0 x3 x8 = 0 := fun q => by unfold fwE; rw [if_pos q]
        refine sp_canBeGone hp (fun hg => ?_) (fun hg => ?_)
        · refine ⟨fun q => absurd q (by decide), fun _ => ⟨hp, fun hab => ⟨⟨by omega, by omega⟩, ?_⟩, fun hab => ⟨⟨by omega, by omega⟩, ?_⟩⟩⟩
          · intro s9 e9 x12 e12
            refine ⟨fin s9 x12 ?_ e12 (by omega), by dsimp only; omega⟩
            rw [e9, hv6, hN6 _ (Or.inl rfl)]
            congr 1
            unfold fwE
            rw [if_neg hab]
            show _ = eW V d (shX p2) x3 x8
            unfold eW
            rw [if_pos ((hN.opn ⟨by omega, by omega⟩ ⟨by omega, by omega⟩ hab).mpr (hcg.mp hg)), hN.way ⟨by omega, by omega⟩ ⟨by omega, by omega⟩ hab]
          · intro s10 e10 x13 e13
            refine ⟨fin s10 x13 ?_ e13 (by omega), by dsimp only; omega⟩
            rw [e10, hself hab]
        · refine ⟨fun _ => ⟨fun hab => ⟨⟨by omega, by omega⟩, ?_⟩, fun hab => ⟨⟨by omega, by omega⟩, ?_⟩⟩, fun q => absurd rfl q⟩
          · intro s7 e7 x10 e10
            refine ⟨fin s7 x10 ?_ e10 (by omega), by dsimp only; omega⟩
            rw [e7]
            congr 1
            unfold fwE
            rw [if_neg hab]
            show _ = eW V d (shX p2) x3 x8
            unfold eW
            rw [if_neg (fun q => hg (hcg.mpr ((hN.opn ⟨by omega, by omega⟩ ⟨by omega, by omega⟩ hab).mp q)))]
          · intro s8 e8 x11 e11
            refine ⟨fin s8 x11 ?_ e11 (by omega), by dsimp only; omega⟩
            rw [e8, hself hab]
  · refine ⟨⟨by omega, by omega⟩, ?_⟩
    rw [eb, ed]
    refine h σ Fr.rf hN (fun a b a1 a2 b1 b2 => ?_)
    rw [← ed]
    rcases hc d hd.1 hd.2 with q | q
    · exact absurd (heq.symm.trans q) hx
    · rw [← heq]
      exact q a b a1 a2 b1 b2
