/-! ===== the model holds a state ===== -/
def MO (z : Int) : Prop := 0 ≤ z ∧ z < 2097152
def MV (σ : MS) (A : AT) : Prop := NM σ (aV A) ∧ ∀ p, 0 ≤ p → p < 49 → ¬ gI σ 10 p = 0 → ¬ p / 7 = p % 7 ∧ p / 7 < vN (aV A) ∧ p % 7 < vN (aV A)
def MS' (σ : MS) (A : AT) : Prop := stR (gI σ 13) = aS A ∧ MO (gI σ 13 4)
def slot (at' un i : Int) : Int := (at' + 8 - un + i) % 8
def MU (σ : MS) (A : AT) : Prop := (0 ≤ aUn A ∧ aUn A ≤ 8) ∧ gI σ 0 22 = aUn A ∧ (0 ≤ gI σ 0 23 ∧ gI σ 0 23 < 8) ∧ ∀ i, 0 ≤ i → i < aUn A → stR (fun k => gI σ 16 (13 * slot (gI σ 0 23) (aUn A) i + k)) = aUf A i ∧ MO (gI σ 16 (13 * slot (gI σ 0 23) (aUn A) i + 4))
def MK (σ : MS) (A : AT) : Prop := (0 ≤ aKn A ∧ aKn A ≤ 2) ∧ gI σ 0 31 = aKn A ∧ ∀ i, 0 ≤ i → i < aKn A → stR (fun k => gI σ 22 (13 * i + k)) = aKf A i ∧ MO (gI σ 22 (13 * i + 4))
def ME (σ : MS) (A : AT) : Prop := gI σ 0 27 = aEn A ∧ ∀ i, 0 ≤ i → i < aEn A → gI σ 19 (2 * i) = aEh A i ∧ gI σ 19 (2 * i + 1) = aEd A i
def MT' (σ : MS) (A : AT) : Prop := gI σ 0 0 = aTn A ∧ ∀ i, 0 ≤ i → i < aTn A → gI σ 1 i = aTl A i
def MI (σ : MS) (A : AT) : Prop := MV σ A ∧ MS' σ A ∧ MU σ A ∧ MK σ A ∧ ME σ A ∧ MT' σ A
theorem stR_cong {f g : Int → Int} (h : ∀ k, 0 ≤ k → k < 13 → f k = g k) : stR f = stR g := by
  unfold stR
  rw [h 0 (by decide) (by decide), h 1 (by decide) (by decide), h 2 (by decide) (by decide), h 3 (by decide) (by decide), h 4 (by decide) (by decide), h 5 (by decide) (by decide)]
  congr 1
  funext y
  by_cases c : 0 ≤ y ∧ y < 7
  · rw [if_pos c, if_pos c, h (6 + y) (by omega) (by omega)]
  · rw [if_neg c, if_neg c]
/-- but for these cells and the object's fields all is as it was -/
theorem MV.fr {σ σ' : MS} {A : AT} (h : MV σ A) (e : ∀ k, (8 ≤ k ∧ k ≤ 12) → ∀ j, gI σ' k j = gI σ k j) (e12 : gI σ' 0 12 = gI σ 0 12) (e13 : gI σ' 0 13 = gI σ 0 13) : MV σ' A := by
  obtain ⟨⟨h1, h2⟩, h3⟩ := h
  refine ⟨⟨?_, h2⟩, fun p p1 p2 hp => h3 p p1 p2 (by rw [e 10 (by omega)] at hp; exact hp)⟩
  rw [← h1]
  unfold vM
  rw [e12, e13, funext (e 8 (by omega)), funext (e 9 (by omega)), funext (e 10 (by omega)), funext (e 11 (by omega)), funext (e 12 (by omega))]
theorem MI.fr {σ σ' : MS} {A : AT} {ks : List Nat} (h : MI σ A) (hF : Fr ks σ σ') (hk : ∀ k ∈ ks, k = 14 ∨ k = 15 ∨ k = 17 ∨ k = 18 ∨ k = 20 ∨ k = 21 ∨ (2 ≤ k ∧ k ≤ 7)) : MI σ' A := by
  have n : ∀ k, (k = 0 ∨ k = 1 ∨ (8 ≤ k ∧ k ≤ 13) ∨ k = 16 ∨ k = 19 ∨ k = 22) → k ∉ ks := fun k hh q => by have := hk k q; omega
  obtain ⟨h1, ⟨h2, h2b⟩, ⟨h3, h3b, h3c, h3d⟩, ⟨h4, h4b, h4c⟩, ⟨h5, h5b⟩, h6, h6b⟩ := h
  have e0 := hF.gI (n 0 (by omega))
  refine ⟨h1.fr (fun k hk => hF.gI (n k (by omega))) (e0 12) (e0 13), ⟨by rw [funext (hF.gI (n 13 (by omega)))]; exact h2, by rw [hF.gI (n 13 (by omega))]; exact h2b⟩, ⟨h3, by rw [e0]; exact h3b, by rw [e0]; exact h3c, fun i i1 i2 => ?_⟩, ⟨h4, by rw [e0]; exact h4b, fun i i1 i2 => ?_⟩, ⟨by rw [e0]; exact h5, fun i i1 i2 => ?_⟩, by rw [e0]; exact h6, fun i i1 i2 => ?_⟩
  · simp only [e0, hF.gI (n 16 (by omega))]; exact h3d i i1 i2
  · simp only [hF.gI (n 22 (by omega))]; exact h4c i i1 i2
  · simp only [hF.gI (n 19 (by omega))]; exact h5b i i1 i2
  · rw [hF.gI (n 1 (by omega))]; exact h6b i i1 i2
theorem MI.N {σ : MS} {A : AT} (h : MI σ A) : NM σ (aV A) := h.1.1
theorem MI.n {σ : MS} {A : AT} (h : MI σ A) : gI σ 0 12 = vN (aV A) := h.1.1.n
theorem MI.s {σ : MS} {A : AT} (h : MI σ A) : gI σ 13 1 = tDay (aS A) ∧ gI σ 13 0 = tBell (aS A) ∧ gI σ 13 2 = tHeld (aS A) ∧ gI σ 13 3 = tSick (aS A) ∧ gI σ 13 5 = tHad (aS A) ∧ shM (gI σ 13 4) = tShut (aS A) := by
  rw [← h.2.1.1]
  exact ⟨rfl, rfl, rfl, rfl, rfl, rfl⟩
theorem MI.sp {σ : MS} {A : AT} (h : MI σ A) {c : Int} (hc : 0 ≤ c ∧ c < 7) : gI σ 13 (6 + c) = tSoup (aS A) c := by
  rw [← h.2.1.1]
  show _ = (if _ then _ else _)
  rw [if_pos hc]
theorem isHomeM {σ : MS} {A : AT} {B p : Int} {Q : Int → Prop} (h : MI σ A) (hW : WF B A) (h1 : (0 ≤ p ∧ p < vN (aV A)) → Q 1) (h0 : ¬ (0 ≤ p ∧ p < vN (aV A)) → Q 0) : wp_M_isHome p σ Q := by
  have hn := hW.n
  unfold wp_M_isHome
  rw [h.n]
  refine ⟨⟨by omega, by omega⟩, ?_⟩
  exact sp_Min (fun q => h1 (by omega)) (fun q => h0 (by omega))
theorem sp_copyNow {σ : MS} {A : AT} {Q : MS → Prop} (h : MI σ A) (hq : ∀ σ', MI σ' A → stR (gI σ' 14) = aS A → gI σ' 14 4 = gI σ' 13 4 → Q σ') : wp_M_copyNow σ Q := by
  unfold wp_M_copyNow
  refine ⟨(fun x s => 0 ≤ x ∧ x ≤ 13 ∧ Fr [14] σ s ∧ ∀ j, 0 ≤ j → j < x → gI s 14 j = gI σ 13 j), (fun x _ => (13 - x).toNat), ⟨by omega, by omega, Fr.rf, fun j j1 j2 => by omega⟩, ?_⟩
  rintro x1 s1 ⟨g0, g1, hF, hv⟩
  refine ⟨⟨by omega, by omega⟩, fun c => ?_, fun c => ⟨⟨g0, by omega⟩, fun s2 e2 x2 ex => ⟨⟨by omega, by omega, by rw [e2]; exact hF.tr (Fr.I (by decide) _ _), fun j j1 j2 => ?_⟩, by dsimp only; omega⟩⟩⟩
  · refine hq s1 (h.fr hF (by decide)) ?_ (by rw [hv 4 (by decide) (by omega), hF.gI (by decide)])
    rw [← h.2.1.1]
    exact stR_cong (fun k k1 k2 => hv k k1 (by omega))
  · by_cases e : j = x1
    · rw [e2, e, gI_eq, hF.gI (by decide)]
    · rw [e2, gI_nj e]; exact hv j j1 (by omega)
theorem sp_remember {σ : MS} {A : AT} {Q : MS → Prop} (h : MI σ A) (hq : ∀ σ', MI σ' (push A) → (∀ j, gI σ' 13 j = gI σ 13 j) → Q σ') : wp_M_remember σ Q := by
  obtain ⟨h1, h2, ⟨h3, h3b, h3c, h3d⟩, h4, h5, h6⟩ := id h
  unfold wp_M_remember
  refine ⟨(fun x s => 0 ≤ x ∧ x ≤ 13 ∧ Fr [16] σ s ∧ (∀ j, 0 ≤ j → j < x → gI s 16 (13 * gI σ 0 23 + j) = gI σ 13 j) ∧ ∀ j, (j < 13 * gI σ 0 23 ∨ 13 * gI σ 0 23 + 13 ≤ j) → gI s 16 j = gI σ 16 j), (fun x _ => (13 - x).toNat), ⟨by omega, by omega, Fr.rf, fun j j1 j2 => by omega, fun _ _ => rfl⟩, ?_⟩
  rintro x1 s1 ⟨g0, g1, hF, hv, ho⟩
  have e0 := hF.gI (k := 0) (by decide)
  rw [e0]
  refine ⟨⟨by omega, by omega⟩, fun c => ⟨⟨by omega, by omega⟩, ?_⟩, fun c => ⟨⟨g0, by omega⟩, ⟨by omega, by omega⟩, fun s5 e5 x2 ex => ⟨⟨by omega, by omega, by rw [e5]; exact hF.tr (Fr.I (by decide) _ _), fun j j1 j2 => ?_, fun j hj => ?_⟩, by dsimp only; omega⟩⟩⟩
  · intro s2 e2
    have f22 : gI s2 0 22 = aUn A := by rw [e2, gI_nj (by decide), e0]; exact h3b
    rw [f22]
    have fin : ∀ s3 v, s3 = sI s2 0 22 v → v = (if aUn A < 8 then aUn A + 1 else 8) → Q s3 := by
      intro s3 v e3 ev
      have hF3 : Fr [0, 16] σ s3 := by
        rw [e3, e2]
        exact ((hF.mono (by decide)).tr (Fr.I (by decide) _ _)).tr (Fr.I (by decide) _ _)
      have o0 : ∀ j, ¬ j = 22 → ¬ j = 23 → gI s3 0 j = gI σ 0 j := fun j j1 j2 => by rw [e3, gI_nj j1, e2, gI_nj j2, e0]
      have f23 : gI s3 0 23 = (gI σ 0 23 + 1) % 8 := by rw [e3, gI_nj (by decide), e2, gI_eq]
      have f22' : gI s3 0 22 = v := by rw [e3, gI_eq]
      have g16 : ∀ j, gI s3 16 j = gI s1 16 j := fun j => by rw [e3, gI_nk (by decide), e2, gI_nk (by decide)]
      refine hq s3 ?_ (hF3.gI (by decide))
      have b1 : MV s3 A := h1.fr (fun k hk => hF3.gI (by simp; omega)) (o0 12 (by decide) (by decide)) (o0 13 (by decide) (by decide))
      have b2 : MS' s3 A := ⟨by rw [funext (hF3.gI (k := 13) (by decide))]; exact h2.1, by rw [hF3.gI (by decide)]; exact h2.2⟩
      have b4 : MK s3 A := ⟨h4.1, by rw [o0 31 (by decide) (by decide)]; exact h4.2.1, fun i i1 i2 => by simp only [hF3.gI (k := 22) (by decide)]; exact h4.2.2 i i1 i2⟩
      have b5 : ME s3 A := ⟨by rw [o0 27 (by decide) (by decide)]; exact h5.1, fun i i1 i2 => by simp only [hF3.gI (k := 19) (by decide)]; exact h5.2 i i1 i2⟩
      have b6 : MT' s3 A := ⟨by rw [o0 0 (by decide) (by decide)]; exact h6.1, fun i i1 i2 => by rw [hF3.gI (by decide)]; exact h6.2 i i1 i2⟩
      -- the new row and the old ones
      have rnew : stR (fun k => gI s3 16 (13 * gI σ 0 23 + k)) = aS A ∧ MO (gI s3 16 (13 * gI σ 0 23 + 4)) := by
        refine ⟨?_, by rw [g16, hv 4 (by decide) (by omega)]; exact h2.2⟩
        rw [← h2.1]
        exact stR_cong (fun k k1 k2 => by rw [g16, hv k k1 (by omega)])
      have rold : ∀ t, 0 ≤ t → t < 8 → ¬ t = gI σ 0 23 → ∀ k, 0 ≤ k → k < 13 → gI s3 16 (13 * t + k) = gI σ 16 (13 * t + k) := fun t t1 t2 t3 k k1 k2 => by
        rw [g16]; exact ho _ (by omega)
      unfold push
      by_cases c8 : aUn A < 8
      · rw [if_pos c8] at ev ⊢
        refine ⟨b1, b2, ⟨⟨?_, ?_⟩, by rw [f22', ev]; rfl, by rw [f23]; omega, fun i i1 i2 => ?_⟩, b4, b5, b6⟩
        · show 0 ≤ aUn A + 1; omega
        · show aUn A + 1 ≤ 8; omega
        · have i3 : i < aUn A + 1 := i2
          have es : slot (gI s3 0 23) (aUn A + 1) i = slot (gI σ 0 23) (aUn A) i := by unfold slot; rw [f23]; omega
          show stR (fun k => gI s3 16 (13 * slot (gI s3 0 23) (aUn A + 1) i + k)) = (if i = aUn A then aS A else aUf A i) ∧ MO (gI s3 16 (13 * slot (gI s3 0 23) (aUn A + 1) i + 4))
          rw [es]
          by_cases e : i = aUn A
          · have : slot (gI σ 0 23) (aUn A) i = gI σ 0 23 := by unfold slot; omega
            rw [this, if_pos e]
            exact rnew
          · rw [if_neg e]
            have hs : 0 ≤ slot (gI σ 0 23) (aUn A) i ∧ slot (gI σ 0 23) (aUn A) i < 8 ∧ ¬ slot (gI σ 0 23) (aUn A) i = gI σ 0 23 := by unfold slot; omega
            obtain ⟨q1, q2⟩ := h3d i i1 (by omega)
            refine ⟨?_, by rw [rold _ hs.1 hs.2.1 hs.2.2 4 (by decide) (by decide)]; exact q2⟩
            rw [← q1]
            exact stR_cong (fun k k1 k2 => rold _ hs.1 hs.2.1 hs.2.2 k k1 k2)
      · rw [if_neg c8] at ev ⊢
        have h8 : aUn A = 8 := by omega
        refine ⟨b1, b2, ⟨⟨?_, ?_⟩, by rw [f22', ev]; rfl, by rw [f23]; omega, fun i i1 i2 => ?_⟩, b4, b5, b6⟩
        · show (0 : Int) ≤ 8; omega
        · show (8 : Int) ≤ 8; omega
        · have i3 : i < 8 := i2
          have es : slot (gI s3 0 23) 8 i = (gI σ 0 23 + 1 + i) % 8 := by unfold slot; rw [f23]; omega
          show stR (fun k => gI s3 16 (13 * slot (gI s3 0 23) 8 i + k)) = (if i = 7 then aS A else aUf A (i + 1)) ∧ MO (gI s3 16 (13 * slot (gI s3 0 23) 8 i + 4))
          rw [es]
          by_cases e : i = 7
          · rw [show (gI σ 0 23 + 1 + i) % 8 = gI σ 0 23 by omega, if_pos e]
            exact rnew
          · rw [if_neg e]
            have es2 : slot (gI σ 0 23) (aUn A) (i + 1) = (gI σ 0 23 + 1 + i) % 8 := by unfold slot; omega
            obtain ⟨q1, q2⟩ := h3d (i + 1) (by omega) (by omega)
            rw [es2] at q1 q2
            refine ⟨?_, by rw [rold _ (by omega) (by omega) (by omega) 4 (by decide) (by decide)]; exact q2⟩
            rw [← q1]
            exact stR_cong (fun k k1 k2 => rold _ (by omega) (by omega) (by omega) k k1 k2)
    refine ⟨fun c2 => ⟨⟨by omega, by omega⟩, fun s3 e3 => fin s3 _ e3 (by rw [if_neg (by omega)]; omega)⟩, fun c2 => ⟨⟨by omega, by omega⟩, fun s3 e3 => fin s3 _ e3 (by rw [if_pos (by omega)])⟩⟩
  · by_cases e : j = x1
    · rw [e5, e, gI_eq, hF.gI (by decide)]
    · rw [e5, gI_nj (by omega)]; exact hv j j1 (by omega)
  · rw [e5, gI_nj (by omega)]; exact ho j hj
