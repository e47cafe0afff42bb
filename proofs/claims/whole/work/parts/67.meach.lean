/-! ===== the model's each ===== -/
def IsY (g : Int → Int → Int → Int) (n : Int) (t : Nat) (h m v : Int) : Prop :=
  (v = 1000000 ∧ ∀ k : Nat, k ≤ 28 - t → ¬ pth g n k t h m) ∨ ∃ k : Nat, k ≤ 28 - t ∧ v = k ∧ pth g n k t h m ∧ ∀ j : Nat, j < k → ¬ pth g n j t h m
def NT (σ : MS) (g : Int → Int → Int → Int) (n : Int) : Prop := ∀ t h c, 0 ≤ t → t < 28 → 0 ≤ h → h < n → 0 ≤ c → c ≤ n → gI σ 17 (56 * t + 8 * h + c) = g t h c
def YT (σ : MS) (g : Int → Int → Int → Int) (n : Int) (t : Nat) : Prop := ∀ h m, 0 ≤ h → h < n → 0 ≤ m → m ≤ ishl 1 n - 1 → IsY g n t h m (gI σ 18 (896 * t + 128 * h + m))
theorem IsY.in {g : Int → Int → Int → Int} {n : Int} {t : Nat} {h m v : Int} (q : IsY g n t h m v) : 0 ≤ v ∧ v ≤ 1000000 := by
  rcases q with ⟨e, -⟩ | ⟨k, k1, e, -⟩ <;> omega
theorem all7 {n : Int} (hn : 1 ≤ n ∧ n ≤ 7) : ishl 1 n - 1 = ((2 ^ n.toNat : Nat) : Int) - 1 ∧ 1 ≤ ((2 ^ n.toNat : Nat) : Int) ∧ ((2 ^ n.toNat : Nat) : Int) ≤ 128 := by
  have h1 : 2 ^ n.toNat ≤ 2 ^ 7 := Nat.pow_le_pow_right (by decide) (by omega)
  have h2 : 1 ≤ 2 ^ n.toNat := Nat.one_le_two_pow
  refine ⟨by rw [ishl1 (by omega) (by omega)], Int.ofNat_le.2 h2, Int.ofNat_le.2 h1⟩
theorem ior_all {n m a : Int} (hn : 1 ≤ n ∧ n ≤ 7) (hm : 0 ≤ m ∧ m ≤ ishl 1 n - 1) (ha : 0 ≤ a ∧ a < n) : 0 ≤ ior m (ishl 1 a) ∧ ior m (ishl 1 a) ≤ ishl 1 n - 1 := by
  have e := all7 hn
  have q := ior_in (k := n.toNat) (a := m) (c := a) (by omega) ⟨hm.1, by omega⟩ ⟨ha.1, by omega⟩
  omega
theorem sp_copyNowF {σ : MS} {A : AT} {Q : MS → Prop} (h : MI σ A) (hq : ∀ σ', Fr [14] σ σ' → MI σ' A → stR (gI σ' 14) = aS A → Q σ') : wp_M_copyNow σ Q := by
  unfold wp_M_copyNow
  refine ⟨(fun x s => 0 ≤ x ∧ x ≤ 13 ∧ Fr [14] σ s ∧ ∀ j, 0 ≤ j → j < x → gI s 14 j = gI σ 13 j), (fun x _ => (13 - x).toNat), ⟨by omega, by omega, Fr.rf, fun j j1 j2 => by omega⟩, ?_⟩
  rintro x1 s1 ⟨g0, g1, hF, hv⟩
  refine ⟨⟨by omega, by omega⟩, fun c => ?_, fun c => ⟨⟨g0, by omega⟩, fun s2 e2 x2 ex => ⟨⟨by omega, by omega, by rw [e2]; exact hF.tr (Fr.I (by decide) _ _), fun j j1 j2 => ?_⟩, by dsimp only; omega⟩⟩⟩
  · refine hq s1 hF (h.fr hF (by decide)) ?_
    rw [← h.2.1.1]
    exact stR_cong (fun k k1 k2 => hv k k1 (by omega))
  · by_cases e : j = x1
    · rw [e2, e, gI_eq, hF.gI (by decide)]
    · rw [e2, gI_nj e]; exact hv j j1 (by omega)
theorem sp_layNexts {σ : MS} {A : AT} {B : Int} {Q : MS → Prop} (hC : MI σ A) (hW : WF B A) (hB : 0 ≤ B ∧ B ≤ 800000) (h : ∀ σ', MI σ' A → NT σ' (nx (aV A) (aS A)) (vN (aV A)) → Q σ') : wp_M_layNexts σ Q := by
  have hn := hW.n
  have hd := hW.2.1.1
  have hd2 := hW.2.1.2.1
  unfold wp_M_layNexts
  refine ⟨(fun x s => 0 ≤ x ∧ x ≤ 28 ∧ MI s A ∧ ∀ t h c, 0 ≤ t → t < x → 0 ≤ h → h < vN (aV A) → 0 ≤ c → c ≤ vN (aV A) → gI s 17 (56 * t + 8 * h + c) = nx (aV A) (aS A) t h c), (fun x _ => (28 - x).toNat), ⟨by omega, by omega, hC, fun t h c t1 t2 => by omega⟩, ?_⟩
  rintro t1 s1 ⟨g0, g1, hC1, hv1⟩
  refine ⟨⟨by omega, by omega⟩, fun c => h s1 hC1 (fun t h c t1' t2 => hv1 t h c t1' (by omega)), fun c => ?_⟩
  refine ⟨(fun x s => 0 ≤ x ∧ x ≤ vN (aV A) ∧ MI s A ∧ ∀ t h c, 0 ≤ t → (t < t1 ∨ t = t1 ∧ h < x) → 0 ≤ h → h < vN (aV A) → 0 ≤ c → c ≤ vN (aV A) → gI s 17 (56 * t + 8 * h + c) = nx (aV A) (aS A) t h c), (fun x _ => (vN (aV A) - x).toNat), ⟨by omega, by omega, hC1, fun t h c a1 a2 a3 => hv1 t h c a1 (by omega) a3⟩, ?_⟩
  rintro h2 s2 ⟨g2, g3, hC2, hv2⟩
  rw [hC2.n]
  refine ⟨⟨by omega, by omega⟩, fun c x3 e3 => ⟨⟨by omega, by omega, hC2, fun t h c a1 a2 a3 a4 => hv2 t h c a1 (by omega) a3 a4⟩, by dsimp only; omega⟩, fun c => ?_⟩
  refine ⟨(fun x s => 0 ≤ x ∧ x ≤ vN (aV A) + 1 ∧ MI s A ∧ ∀ t h c, 0 ≤ t → (t < t1 ∨ t = t1 ∧ (h < h2 ∨ h = h2 ∧ c < x)) → 0 ≤ h → h < vN (aV A) → 0 ≤ c → c ≤ vN (aV A) → gI s 17 (56 * t + 8 * h + c) = nx (aV A) (aS A) t h c), (fun x _ => (vN (aV A) + 1 - x).toNat), ⟨by omega, by omega, hC2, fun t h c a1 a2 a3 a4 a5 => hv2 t h c a1 (by omega) a3 a4 a5⟩, ?_⟩
  rintro c4 s3 ⟨g4, g5, hC3, hv3⟩
  rw [hC3.n]
  refine ⟨⟨by omega, by omega⟩, fun c x5 e5 => ⟨⟨by omega, by omega, hC3, fun t h c a1 a2 a3 a4 a5 a6 => hv3 t h c a1 (by omega) a3 a4 a5 a6⟩, by dsimp only; omega⟩, fun c => ?_⟩
  refine sp_copyNowF hC3 (fun s4 hF4 hC4 hS4 => ?_)
  have e13 : gI s4 13 1 = tDay (aS A) := hC4.s.1
  rw [e13]
  refine ⟨⟨by omega, by omega⟩, ?_⟩
  intro s5 e5 s6 e6
  have hC6 : MI s6 A := by rw [e6, e5]; exact (hC4.t14 _ _).t14 _ _
  have fld : ∀ j, ¬ j = 0 → ¬ j = 1 → gI s6 14 j = gI s4 14 j := fun j j0 j1 => by rw [e6, gI_nj j0, e5, gI_nj j1]
  have f0 : gI s6 14 0 = h2 := by rw [e6, gI_eq]
  have f1 : gI s6 14 1 = tDay (aS A) + t1 := by rw [e6, gI_nj (by decide), e5, gI_eq]
  -- who is last with what is held
  have go : ∀ s7 v, s7 = sI s6 14 2 v → v = tHeld (chS (aS A) t1 h2 c4) → wp_M_latest 14 0 s7 (fun (r2 : Int) (s8 : MS) =>
       wp_M_nextAt t1 h2 c4 (fun (r3 : Int) =>
        (¬ r2 = (-4) →
         (0 ≤ r3 ∧ r3 < 1568) ∧
          ∀ s9 : MS, s9 = sI s8 17 r3 r2 →
          ∀ x6 : Int, x6 = c4 + 1 →
          (0 ≤ x6 ∧ x6 ≤ vN (aV A) + 1 ∧ MI s9 A ∧ ∀ t h c, 0 ≤ t → (t < t1 ∨ t = t1 ∧ (h < h2 ∨ h = h2 ∧ c < x6)) → 0 ≤ h → h < vN (aV A) → 0 ≤ c → c ≤ vN (aV A) → gI s9 17 (56 * t + 8 * h + c) = nx (aV A) (aS A) t h c) ∧ (vN (aV A) + 1 - x6).toNat < (vN (aV A) + 1 - c4).toNat) ∧
         (r2 = (-4) →
         (0 ≤ r3 ∧ r3 < 1568) ∧
          ∀ s10 : MS, s10 = sI s8 17 r3 h2 →
          ∀ x7 : Int, x7 = c4 + 1 →
          (0 ≤ x7 ∧ x7 ≤ vN (aV A) + 1 ∧ MI s10 A ∧ ∀ t h c, 0 ≤ t → (t < t1 ∨ t = t1 ∧ (h < h2 ∨ h = h2 ∧ c < x7)) → 0 ≤ h → h < vN (aV A) → 0 ≤ c → c ≤ vN (aV A) → gI s10 17 (56 * t + 8 * h + c) = nx (aV A) (aS A) t h c) ∧ (vN (aV A) + 1 - x7).toNat < (vN (aV A) + 1 - c4).toNat))) := by
    intro s7 v e7 ev
    have hC7 : MI s7 A := by rw [e7]; exact hC6.t14 _ _
    have k : ∀ j, ¬ j = 2 → gI s7 14 j = gI s6 14 j := fun j hj => by rw [e7, gI_nj hj]
    have etm : ∀ c, tm (aV A) (stR (gI s7 14)) c = tm (aV A) (chS (aS A) t1 h2 c4) c := fun c => tm_cong (s' := stR (gI s7 14)) (s := chS (aS A) t1 h2 c4) ((k 1 (by decide)).trans f1) ((k 0 (by decide)).trans f0) (by
      show gI s7 14 2 = _
      rw [e7, gI_eq]; exact ev) (by
      show gI s7 14 3 = tSick (aS A)
      rw [k 3 (by decide), fld 3 (by decide) (by decide), ← hS4]; rfl) (by
      show shM (gI s7 14 4) = tShut (aS A)
      rw [k 4 (by decide), fld 4 (by decide) (by decide), ← hS4]; rfl) c
    have eg : nx (aV A) (aS A) t1 h2 c4 = if who (aV A) (stR (gI s7 14)) 0 = -4 then h2 else who (aV A) (stR (gI s7 14)) 0 := by
      rw [who_cong etm]; rfl
    refine sp_latest hC7.N (Or.inr rfl) (by rw [k 0 (by decide), f0]; omega) (by rw [k 1 (by decide), f1]; omega) (fun s8 hF8 _ => ?_)
    have hC8 : MI s8 A := hC7.fr hF8 (by decide)
    have g17 : ∀ j, gI s8 17 j = gI s3 17 j := fun j => by rw [hF8.gI (by decide), e7, gI_nk (by decide), e6, gI_nk (by decide), e5, gI_nk (by decide), hF4.gI (by decide)]
    have fin : ∀ s9 v, s9 = sI s8 17 (56 * t1 + 8 * h2 + c4) v → v = nx (aV A) (aS A) t1 h2 c4 → ∀ x, x = c4 + 1 → (0 ≤ x ∧ x ≤ vN (aV A) + 1 ∧ MI s9 A ∧ ∀ t h c, 0 ≤ t → (t < t1 ∨ t = t1 ∧ (h < h2 ∨ h = h2 ∧ c < x)) → 0 ≤ h → h < vN (aV A) → 0 ≤ c → c ≤ vN (aV A) → gI s9 17 (56 * t + 8 * h + c) = nx (aV A) (aS A) t h c) ∧ (vN (aV A) + 1 - x).toNat < (vN (aV A) + 1 - c4).toNat := by
      intro s9 v e9 ev x ex
      refine ⟨⟨by omega, by omega, by rw [e9]; exact hC8.fr (Fr.I (ks := [17]) (by decide) _ _) (by decide), fun t h c a1 a2 a3 a4 a5 a6 => ?_⟩, by omega⟩
      by_cases e : t = t1 ∧ h = h2 ∧ c = c4
      · rw [e.1, e.2.1, e.2.2, e9, gI_eq, ev]
      · rw [e9, gI_nj (by omega), g17]
        exact hv3 t h c a1 (by omega) a3 a4 a5 a6
    unfold wp_M_nextAt
    refine ⟨⟨by omega, by omega⟩, fun c8 => ⟨⟨by omega, by omega⟩, fun s9 e9 x6 e6' => fin s9 _ e9 (by rw [eg, if_neg c8]) x6 e6'⟩, fun c8 => ⟨⟨by omega, by omega⟩, fun s9 e9 x6 e6' => fin s9 _ e9 (by rw [eg, if_pos c8]) x6 e6'⟩⟩
  refine ⟨fun c8 s7 e7 => go s7 _ e7 (by show _ = (if c4 = 0 then 0 else ishl 1 (c4 - 1)); rw [if_neg c8]), fun c8 s7 e7 => go s7 _ e7 (by show _ = (if c4 = 0 then 0 else ishl 1 (c4 - 1)); rw [if_pos c8])⟩
/-- what is put least -/
theorem sp_byChoice {σ : MS} {g : Int → Int → Int → Int} {n h m c : Int} {t : Nat} {Q : Int → Prop} (hn : 1 ≤ n ∧ n ≤ 7) (hg : ∀ t h c, 0 ≤ h → h < n → 0 ≤ g t h c ∧ g t h c < n) (hT : NT σ g n) (ht : t < 28) (hY : YT σ g n (t + 1)) (hh : 0 ≤ h ∧ h < n) (hm : 0 ≤ m ∧ m ≤ ishl 1 n - 1) (hc : 0 ≤ c ∧ c ≤ n)
    (hq : ∀ v, IsY g n (t + 1) (g t h c) (ior m (ishl 1 (g t h c))) v → Q (1 + v)) : wp_M_byChoice t h m c σ Q := by
  have hto := hg t h c hh.1 hh.2
  have hm2 := ior_all hn hm hto
  have e7 := all7 hn
  unfold wp_M_byChoice wp_M_nextAt wp_M_yetAt
  refine ⟨⟨by omega, by omega⟩, ?_⟩
  dsimp only
  rw [hT t h c (by omega) (by omega) hh.1 hh.2 hc.1 hc.2]
  have hv := hY (g t h c) (ior m (ishl 1 (g t h c))) hto.1 hto.2 hm2.1 hm2.2
  rw [show (((t + 1 : Nat) : Int)) = (t : Int) + 1 by omega] at hv
  have hin := hv.in
  exact ⟨⟨by omega, by omega⟩, ⟨by omega, by omega⟩, ⟨by omega, by omega⟩, ⟨by omega, by omega⟩, ⟨by omega, by omega⟩, hq _ hv⟩
