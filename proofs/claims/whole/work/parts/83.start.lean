/-! ===== how both begin ===== -/
def Aof (d : DT) : AT := (vOf d, st0 (dB d), (0, fun _ => st0 0), (0, fun _ => st0 0), (0, (fun _ => 0), fun _ => 0), (0, fun _ => 0))
def A0 : AT := Aof ftD.2
theorem ft_WFD : WFD ftD.2 := prs_in 200 WFD0
theorem Aof_WK {d : DT} (hd : WFD d) (hb : dB d < dN d) : WK 0 (Aof d) := by
  refine ⟨⟨WFV_of hd hb, st0_in ⟨hd.2.1.1, hb⟩ hd.1.2, ⟨Int.le_refl 0, by show (0 : Int) ≤ 8; omega, fun i i1 i2 => ?_⟩, ⟨Int.le_refl 0, by show (0 : Int) ≤ 2; omega, fun i i1 i2 => ?_⟩, ⟨Int.le_refl 0, by show (0 : Int) ≤ 6; omega, fun i i1 i2 => ?_⟩, Int.le_refl 0, by show (0 : Int) ≤ 200; omega, fun i i1 i2 => ?_⟩, HB0 hd.2.1, fun i i1 i2 => ?_, fun i i1 i2 => ?_⟩
  · have i3 : i < 0 := i2; omega
  · have i3 : i < 0 := i2; omega
  · have i3 : i < 0 := i2; omega
  · have i3 : i < 0 := i2; omega
  · have i3 : i < 0 := i2; omega
  · have i3 : i < 0 := i2; omega
theorem A0_WK : WK 0 A0 := Aof_WK ft_WFD (by rw [ft_1.2.1, ft_1.2.2.1]; decide)
/-! the model's constructor: what it tells -/
def dHome (d : DT) (k l : Int) : DT := ((dN d + 1, dB d, dM d), (fun i => if i = dN d then k else dK d i), (fun i => if i = dN d then l else dL d i), dW d, dS d)
def dWay (d : DT) (a b m : Int) : DT := ((dN d, dB d, dM d), dK d, dL d, (fun p => if p = pr a b then m else dW d p), dS d)
def dSnow (d : DT) (a b u v : Int) : DT := ((dN d, dB d, dM d), dK d, dL d, dW d, fun p x => if p = pr a b then decide (u ≤ x ∧ x ≤ v) else dS d p x)
def dMost (d : DT) (m : Int) : DT := ((dN d, dB d, m), dK d, dL d, dW d, dS d)
def dBell (d : DT) (m : Int) : DT := ((dN d, m, dM d), dK d, dL d, dW d, dS d)
def dX1 : DT := dHome (dHome (dHome (dHome (dHome (dHome dt0 0 5) 1 10) 2 8) 0 20) 3 0) 0 12
def dX2 : DT := dWay (dWay (dWay (dWay (dWay (dWay (dWay dX1 0 1 10) 1 2 15) 2 3 20) 3 4 10) 4 0 25) 4 5 8) 2 5 30
def dX3 : DT := dSnow (dSnow dX2 0 1 3 9) 4 5 5 6
def dX : DT := dMost dX3 55
theorem ft_e1 : ∀ i : Fin 6, dK ftD.2 ((i.val : Nat) : Int) = dK dX ((i.val : Nat) : Int) ∧ dL ftD.2 ((i.val : Nat) : Int) = dL dX ((i.val : Nat) : Int) := by decide +kernel
theorem ft_e2 : ∀ p : Fin 49, dW ftD.2 ((p.val : Nat) : Int) = dW dX ((p.val : Nat) : Int) := by decide +kernel
theorem ft_e3 : dN dX = 6 ∧ dB dX = 0 ∧ dM dX = 55 := by decide +kernel
theorem dX_S : dS dX = fun p x => if p = pr 4 5 then decide (5 ≤ x ∧ x ≤ 6) else if p = pr 0 1 then decide (3 ≤ x ∧ x ≤ 9) else false := by
  funext p x
  rfl
theorem sp_comesHome {σ : MS} {d : DT} {k l : Int} {Q : MS → Prop} (hD : DM σ d) (hn : 0 ≤ dN d ∧ dN d < 7) (h : ∀ σ', RF σ σ' → DM σ' (dHome d k l) → Q σ') : wp_M_comesHome k l σ Q := by
  obtain ⟨⟨d1, d2, d3⟩, d4, d5⟩ := hD
  unfold wp_M_comesHome
  rw [d1]
  refine ⟨⟨by omega, by omega⟩, fun s3 e3 => ?_⟩
  have k3 : gI s3 0 3 = dN d := by rw [e3, gI_nk (by decide)]; exact d1
  rw [k3]
  refine ⟨⟨by omega, by omega⟩, fun s4 e4 => ?_⟩
  have k4 : gI s4 0 3 = dN d := by rw [e4, gI_nk (by decide)]; exact k3
  rw [k4]
  refine ⟨⟨by omega, by omega⟩, fun s5 e5 => ?_⟩
  refine h s5 (by rw [e5, e4, e3]; exact ((RF.rf.w (by decide) _ _).w (by decide) _ _).w0 (by decide) _) ⟨⟨?_, ?_, ?_⟩, fun i i1 i2 => ?_, fun a b a1 a2 b1 b2 => ?_⟩
  · rw [e5, gI_eq]; rfl
  · rw [e5, gI_nj (by decide), e4, gI_nk (by decide), e3, gI_nk (by decide)]; exact d2
  · rw [e5, gI_nj (by decide), e4, gI_nk (by decide), e3, gI_nk (by decide)]; exact d3
  · have i3 : i < dN d + 1 := i2
    show _ = (if i = dN d then k else dK d i) ∧ _ = (if i = dN d then l else dL d i)
    rw [e5, gI_nk (by decide), gI_nk (by decide), e4, gI_nk (by decide), e3]
    by_cases z : i = dN d
    · rw [if_pos z, if_pos z, z, gI_eq, gI_eq]; exact ⟨rfl, rfl⟩
    · rw [if_neg z, if_neg z, gI_nj z, gI_nj z, gI_nk (by decide)]; exact d4 i i1 (by omega)
  · rw [e5, gI_nk (by decide), gI_nk (by decide), gI_nk (by decide), e4, gI_nk (by decide), gI_nk (by decide), gI_nk (by decide), e3, gI_nk (by decide), gI_nk (by decide), gI_nk (by decide)]; exact d5 a b a1 a2 b1 b2
theorem sp_joins {σ : MS} {d : DT} {t0 t1 t2 : Int} {Q : MS → Prop} (hD : DM σ d) (ha : (0 ≤ t0 ∧ t0 < 7) ∧ (0 ≤ t1 ∧ t1 < 7) ∧ ¬ t0 = t1) (h : ∀ σ', RF σ σ' → DM σ' (dWay d t0 t1 t2) → Q σ') : wp_M_joins t0 t1 t2 σ Q := by
  obtain ⟨⟨d1, d2, d3⟩, d4, d5⟩ := hD
  unfold wp_M_joins
  refine ⟨⟨by omega, by omega⟩, fun s3 e3 => ⟨⟨by omega, by omega⟩, fun s4 e4 => ?_⟩⟩
  have ko : ∀ k, ¬ k = 4 → ∀ j, gI s4 k j = gI σ k j := fun k k4 j => by rw [e4, gI_nk k4, e3, gI_nk k4]
  refine h s4 (by rw [e4, e3]; exact (RF.rf.w (by decide) _ _).w (by decide) _ _) ⟨⟨by rw [ko 0 (by decide)]; exact d1, by rw [ko 0 (by decide)]; exact d2, by rw [ko 0 (by decide)]; exact d3⟩, fun i i1 i2 => by rw [ko 2 (by decide), ko 3 (by decide)]; exact d4 i i1 i2, fun a b a1 a2 b1 b2 => ⟨?_, fun hab x => by rw [ko 5 (by decide), ko 6 (by decide)]; exact (d5 a b a1 a2 b1 b2).2 hab x⟩⟩
  show _ = if a = b then 0 else (if pr a b = pr t0 t1 then t2 else dW d (pr a b))
  have g4 : gI s4 4 (7 * a + b) = if (a = t0 ∧ b = t1) ∨ (a = t1 ∧ b = t0) then t2 else gI σ 4 (7 * a + b) := by
    rw [e4]
    by_cases z : a = t1 ∧ b = t0
    · rw [z.1, z.2, gI_eq, if_pos (Or.inr ⟨rfl, rfl⟩)]
    · rw [gI_nj (by omega), e3]
      by_cases w : a = t0 ∧ b = t1
      · rw [w.1, w.2, gI_eq, if_pos (Or.inl ⟨rfl, rfl⟩)]
      · rw [gI_nj (by omega), if_neg (by omega)]
  rw [g4]
  by_cases z : (a = t0 ∧ b = t1) ∨ (a = t1 ∧ b = t0)
  · rw [if_pos z, if_neg (by omega), if_pos (by unfold pr; omega)]
  · rw [if_neg z, (d5 a b a1 a2 b1 b2).1]
    by_cases w : a = b
    · rw [if_pos w, if_pos w]
    · rw [if_neg w, if_neg w, if_neg (by unfold pr; omega)]
theorem sp_snows {σ : MS} {d : DT} {t0 t1 t2 t3 : Int} {Q : MS → Prop} (hD : DM σ d) (ha : (0 ≤ t0 ∧ t0 < 7) ∧ (0 ≤ t1 ∧ t1 < 7) ∧ ¬ t0 = t1) (h : ∀ σ', RF σ σ' → DM σ' (dSnow d t0 t1 t2 t3) → Q σ') : wp_M_snows t0 t1 t2 t3 σ Q := by
  obtain ⟨⟨d1, d2, d3⟩, d4, d5⟩ := hD
  unfold wp_M_snows
  refine ⟨⟨by omega, by omega⟩, fun s3 e3 => ⟨⟨by omega, by omega⟩, fun s4 e4 s5 e5 s6 e6 => ?_⟩⟩
  have hR6 : RF σ s6 := by rw [e6, e5, e4, e3]; exact (((RF.rf.w (by decide) _ _).w (by decide) _ _).w (by decide) _ _).w (by decide) _ _
  have ko : ∀ k, ¬ k = 5 → ¬ k = 6 → ∀ j, gI s6 k j = gI σ k j := fun k k5 k6 j => by rw [e6, gI_nk k6, e5, gI_nk k6, e4, gI_nk k5, e3, gI_nk k5]
  refine h s6 hR6 ⟨⟨by rw [ko 0 (by decide) (by decide)]; exact d1, by rw [ko 0 (by decide) (by decide)]; exact d2, by rw [ko 0 (by decide) (by decide)]; exact d3⟩, fun i i1 i2 => by rw [ko 2 (by decide) (by decide), ko 3 (by decide) (by decide)]; exact d4 i i1 i2, fun a b a1 a2 b1 b2 => ⟨by rw [ko 4 (by decide) (by decide)]; exact (d5 a b a1 a2 b1 b2).1, fun hab x => ?_⟩⟩
  show _ = if pr a b = pr t0 t1 then decide (t2 ≤ x ∧ x ≤ t3) else dS d (pr a b) x
  have g5 : gI s6 5 (7 * a + b) = if (a = t0 ∧ b = t1) ∨ (a = t1 ∧ b = t0) then t2 else gI σ 5 (7 * a + b) := by
    rw [e6, gI_nk (by decide), e5, gI_nk (by decide), e4]
    by_cases z : a = t1 ∧ b = t0
    · rw [z.1, z.2, gI_eq, if_pos (Or.inr ⟨rfl, rfl⟩)]
    · rw [gI_nj (by omega), e3]
      by_cases w : a = t0 ∧ b = t1
      · rw [w.1, w.2, gI_eq, if_pos (Or.inl ⟨rfl, rfl⟩)]
      · rw [gI_nj (by omega), if_neg (by omega)]
  have g6 : gI s6 6 (7 * a + b) = if (a = t0 ∧ b = t1) ∨ (a = t1 ∧ b = t0) then t3 else gI σ 6 (7 * a + b) := by
    rw [e6]
    by_cases z : a = t1 ∧ b = t0
    · rw [z.1, z.2, gI_eq, if_pos (Or.inr ⟨rfl, rfl⟩)]
    · rw [gI_nj (by omega), e5]
      by_cases w : a = t0 ∧ b = t1
      · rw [w.1, w.2, gI_eq, if_pos (Or.inl ⟨rfl, rfl⟩)]
      · rw [gI_nj (by omega), e4, gI_nk (by decide), e3, gI_nk (by decide), if_neg (by omega)]
  rw [g5, g6]
  by_cases z : (a = t0 ∧ b = t1) ∨ (a = t1 ∧ b = t0)
  · rw [if_pos z, if_pos z, if_pos (by unfold pr; omega)]
  · rw [if_neg z, if_neg z, if_neg (by unfold pr; omega)]
    exact (d5 a b a1 a2 b1 b2).2 hab x
/-- what the model's constructor tells is what the first text tells -/
theorem DM_first {σ : MS} (h : DM σ dX) : DM σ ftD.2 := by
  obtain ⟨⟨h1, h2, h3⟩, h4, h5⟩ := h
  obtain ⟨-, f1, f2, f3⟩ := ft_1
  obtain ⟨x1, x2, x3⟩ := ft_e3
  rw [x1] at h1 h4
  rw [x2] at h2
  rw [x3] at h3
  have hS : dS ftD.2 = dS dX := by rw [ft_S, dX_S]
  have hk := ft_e1
  have hw := ft_e2
  refine ⟨⟨by rw [f1]; exact h1, by rw [f2]; exact h2, by rw [f3]; exact h3⟩, fun i i1 i2 => ?_, fun a b a1 a2 b1 b2 => ?_⟩
  · rw [f1] at i2
    obtain ⟨q1, q2⟩ := h4 i i1 i2
    have k := hk ⟨i.toNat, by omega⟩
    simp only [show ((i.toNat : Nat) : Int) = i by omega] at k
    rw [k.1, k.2]
    exact ⟨q1, q2⟩
  · obtain ⟨q1, q2⟩ := h5 a b a1 a2 b1 b2
    have hp := pr_in a1 a2 b1 b2
    have k := hw ⟨(pr a b).toNat, by omega⟩
    simp only [show (((pr a b).toNat : Nat) : Int) = pr a b by omega] at k
    rw [k, hS]
    exact ⟨q1, q2⟩
