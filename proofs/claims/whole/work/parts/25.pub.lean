/-! ===== the class's calls: looking ===== -/
theorem hasC {v : Nat} {p : Int} {σ : MS} {n : Int} {Q : Int → Prop} (e : gI σ v 5 = n) (h1 : (0 ≤ p ∧ p < n) → Q 1) (h0 : ¬ (0 ≤ p ∧ p < n) → Q 0) : wp_Valley_has v p σ Q := by
  subst e
  exact sp_has (fun a b => h1 ⟨a, b⟩) h0
theorem hasTwoC {v : Nat} {a b : Int} {σ : MS} {n : Int} {Q : Int → Prop} (e : gI σ v 5 = n) (h1 : ((0 ≤ a ∧ a < n) ∧ (0 ≤ b ∧ b < n) ∧ ¬ a = b) → Q 1) (h0 : ¬ ((0 ≤ a ∧ a < n) ∧ (0 ≤ b ∧ b < n) ∧ ¬ a = b) → Q 0) : wp_Valley_hasTwo v a b σ Q := by
  subst e
  exact sp_hasTwo (fun a b c => h1 ⟨a, b, c⟩) h0
theorem WF.n {B : Int} {A : AT} (h : WF B A) : 1 ≤ vN (aV A) ∧ vN (aV A) ≤ 7 := ⟨h.1.1, h.1.2.1⟩
theorem sp_B_home {σ : MS} {A : AT} {B p w : Int} {Q : Int → Prop} (hC : CI σ A) (hW : WF B A) (h : Q (fHome A p w)) : wp_B_home p w σ Q := by
  have hn := hW.n
  obtain ⟨s1, s2, s3, s4, s5, s6⟩ := hC.s
  unfold wp_B_home
  unfold fHome at h
  refine hasC hC.n (fun hp => ⟨fun q => absurd q (by decide), fun _ => ⟨fun c => ?_, fun c => ⟨fun c2 => ?_, fun c2 => ?_⟩⟩⟩) (fun hp => ⟨fun _ => ?_, fun q => absurd rfl q⟩)
  · rw [if_neg (by omega)] at h; exact h
  · rw [if_pos (by omega)] at h
    have hk := hC.k hp
    refine ⟨fun e => ?_, fun e => ?_, fun e => ?_, fun e => ?_, fun e => ?_, fun e => ?_, fun e0 e1 e2 e3 e4 e5 => ?_⟩
    · rw [if_pos e] at h; rw [hk.1]; exact ⟨by omega, h⟩
    · rw [if_neg (by omega), if_pos e] at h; rw [hk.2]; exact ⟨by omega, h⟩
    · rw [if_neg (by omega), if_neg (by omega), if_pos e] at h
      rw [s2]
      exact ⟨fun q => by rw [if_neg q] at h; exact h, fun q => by rw [if_pos q] at h; exact h⟩
    · rw [if_neg (by omega), if_neg (by omega), if_neg (by omega), if_pos e] at h
      rw [s5]; exact h
    · rw [if_neg (by omega), if_neg (by omega), if_neg (by omega), if_neg (by omega), if_pos e] at h
      rw [hC.sp ⟨hp.1, by omega⟩]; exact ⟨by omega, h⟩
    · rw [if_neg (by omega), if_neg (by omega), if_neg (by omega), if_neg (by omega), if_neg (by omega), if_pos e] at h
      rw [s4]; exact h
    · rw [if_neg e0, if_neg e1, if_neg e2, if_neg e3, if_neg e4, if_neg e5] at h
      rw [s3]; exact h
  · rw [if_neg (by omega)] at h; exact h
  · rw [if_neg (fun q => hp q.1)] at h; exact h
theorem sp_B_way {σ : MS} {A : AT} {B a b w : Int} {Q : Int → Prop} (hC : CI σ A) (hW : WF B A) (hB : B ≤ 900000) (h : Q (fWay A a b w)) : wp_B_way a b w σ Q := by
  have hn := hW.n
  obtain ⟨s1, s2, s3, s4, s5, s6⟩ := hC.s
  have hd := hW.2.1.1
  have hd2 := hW.2.1.2.1
  unfold wp_B_way
  unfold fWay at h
  refine hasTwoC hC.n (fun hp => ⟨fun q => absurd q (by decide), fun _ => ⟨fun c => ?_, fun c => ⟨fun c2 => ?_, fun c2 => ?_⟩⟩⟩) (fun hp => ⟨fun _ => ?_, fun q => absurd rfl q⟩)
  · rw [if_neg (by omega)] at h; exact h
  · rw [if_pos ⟨hp, by omega, c2⟩] at h
    refine sp_pairOf ⟨hp.1.1, by omega⟩ ⟨hp.2.1.1, by omega⟩ ?_
    have e := hC.w hp.1 hp.2.1 hp.2.2
    rw [e, s1]
    refine ⟨pr_in hp.1.1 (by omega) hp.2.1.1 (by omega), fun q => ?_, fun q => ?_⟩
    · rw [if_neg q] at h
      refine ⟨fun q2 => ⟨⟨hd, by omega⟩, ?_⟩, fun q2 => ?_⟩
      · rw [if_neg q2, ← s6] at h
        have ho := hC.N.opn (d := tDay (aS A) % 28) (x := gL σ 36 6) hp.1 hp.2.1 hp.2.2
        rw [hC.v] at ho
        refine sp_canBeGone (pr_in hp.1.1 (by omega) hp.2.1.1 (by omega)) (fun z => ⟨fun q => absurd q (by decide), fun _ => ?_⟩) (fun z => ⟨fun _ => ?_, fun q => absurd rfl q⟩)
        · rw [if_pos (ho.2 z)] at h; exact h
        · rw [if_neg (fun y => z (ho.1 y))] at h; exact h
      · rw [if_pos q2] at h; exact h
    · rw [if_pos q] at h; exact h
  · rw [if_neg (by omega)] at h; exact h
  · rw [if_neg (fun q => hp q.1)] at h; exact h
theorem sp_B_far {σ : MS} {A : AT} {B a b : Int} {Q : Int → MS → Prop} (hC : CI σ A) (hW : WF B A) (hB : B ≤ 900000) (h : ∀ σ', CI σ' A → Q (fFar A a b) σ') : wp_B_far a b σ Q := by
  have hn := hW.n
  obtain ⟨s1, s2, s3, s4, s5, s6⟩ := hC.s
  have hd := hW.2.1.1
  have hd2 := hW.2.1.2.1
  unfold wp_B_far
  unfold fFar at h
  refine hasC hC.n (fun ha => ⟨fun q => absurd q (by decide), fun _ => ?_⟩) (fun ha => ⟨fun _ => ?_, fun q => absurd rfl q⟩)
  · refine hasC hC.n (fun hb => ⟨fun _ => ?_, fun q => absurd q (by decide)⟩) (fun hb => ⟨fun q => absurd rfl q, fun _ => ?_⟩)
    · refine sp_farOn hC.N (by rw [s1]; omega) (shOK_ne hC.2.1.2) ha hb (fun σ' hF hN => ?_)
      have q := h σ' ?_
      · rw [if_pos ⟨ha, hb⟩] at q
        rw [s1, s6]
        exact q
      · exact hC.dr (hF.mono (by decide)) hN (hF.gR (by decide) 2)
    · have q := h σ hC
      rw [if_neg (fun z => hb z.2)] at q
      exact q
  · have q := h σ hC
    rw [if_neg (fun z => ha z.1)] at q
    exact q
/-- the noon is gathered from how things stand -/
theorem gatherC {σ : MS} {A : AT} {B : Int} {Q : MS → Prop} (hC : CI σ A) (hW : WF B A) (hB : B ≤ 900000)
    (h : ∀ σ', CI σ' A → (∀ c, 0 ≤ c → c < vN (aV A) → gI σ' 20 c = tv (aV A) (aS A) c) → gI σ' 17 4 = who (aV A) (aS A) 0 → Q σ') : wp_Noon_gather 36 σ Q := by
  obtain ⟨s1, s2, s3, s4, s5, s6⟩ := hC.s
  have hd := hW.2.1.1
  have hd2 := hW.2.1.2.1
  have hb := hW.2.1.2.2.1
  have hb2 := hW.2.1.2.2.2.1
  refine sp_gather hC.N (by decide) (by rw [s1]; omega) (by rw [s2]; omega) hC.2.1.2 (fun σ' hF hR hN ht hl _ => ?_)
  rw [hC.2.1.1] at ht hl
  exact h σ' (hC.dr (hF.mono (by decide)) hN hR) ht hl
theorem sp_B_comes {σ : MS} {A : AT} {B c : Int} {Q : Int → MS → Prop} (hC : CI σ A) (hW : WF B A) (hB : B ≤ 900000) (h : ∀ σ', CI σ' A → Q (fComes A c) σ') : wp_B_comes c σ Q := by
  have hn := hW.n
  unfold wp_B_comes
  unfold fComes at h
  refine hasC hC.n (fun ha => ⟨fun _ => ?_, fun q => absurd q (by decide)⟩) (fun ha => ⟨fun q => absurd rfl q, fun _ => ?_⟩)
  · refine gatherC hC hW hB (fun σ' hC' ht _ => ⟨⟨ha.1, by omega⟩, ?_⟩)
    have q := h σ' hC'
    rw [if_pos ha] at q
    rw [ht c ha.1 ha.2]
    exact q
  · have q := h σ hC
    rw [if_neg ha] at q
    exact q
theorem sp_B_last {σ : MS} {A : AT} {B : Int} {Q : Int → MS → Prop} (hC : CI σ A) (hW : WF B A) (hB : B ≤ 900000) (h : ∀ σ', CI σ' A → Q (fLast A) σ') : wp_B_last σ Q := by
  unfold wp_B_last
  refine gatherC hC hW hB (fun σ' hC' _ hl => ?_)
  rw [hl]
  exact h σ' hC'
