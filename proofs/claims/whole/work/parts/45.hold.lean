/-! ===== who would be last, were one held ===== -/
theorem bit1 : ∀ c : Fin 7, ∀ d : Fin 7, bitI (ishl 1 ((c.val : Nat) : Int)) ((d.val : Nat) : Int) = if d = c then 1 else 0 := by decide +kernel
theorem bit1' {c d : Int} (hc : 0 ≤ c ∧ c < 7) (hd : 0 ≤ d ∧ d < 7) : bitI (ishl 1 c) d = if d = c then 1 else 0 := by
  have q := bit1 ⟨c.toNat, by omega⟩ ⟨d.toNat, by omega⟩
  simp only [show ((c.toNat : Nat) : Int) = c by omega, show ((d.toNat : Nat) : Int) = d by omega] at q
  rw [q]
  by_cases e : d = c
  · rw [if_pos e, if_pos (by simp [e])]
  · rw [if_neg e, if_neg (fun z => e (by simp at z; omega))]
theorem tm_cong {V : VT} {s s' : ST} (h1 : tDay s' = tDay s) (h2 : tBell s' = tBell s) (h3 : tHeld s' = tHeld s) (h4 : tSick s' = tSick s) (h5 : tShut s' = tShut s) (c : Int) : tm V s' c = tm V s c := by
  unfold tm
  rw [h1, h2, h3, h4, h5]
theorem who_cong {V : VT} {s s' : ST} (h : ∀ c, tm V s' c = tm V s c) (m : Int) : who V s' m = who V s m := by
  unfold who
  rw [funext h]
theorem who_last {V : VT} (s : ST) (hn : 0 ≤ vN V) : IsLast (fun c => tm V s c) (vN V) (who V s 0) := by
  have h := (lst_spec (fun c => if bitI 0 c = 1 then -1 else tm V s c) (vN V).toNat).1
  rw [show (((vN V).toNat : Nat) : Int) = vN V by omega] at h
  refine h.cong (fun c _ _ => Or.inl ?_)
  show (if bitI 0 c = 1 then -1 else tm V s c) = tm V s c
  rw [bit0, if_neg (by decide)]
theorem tm_hold {V : VT} {s : ST} (hW : WFV V) (h0 : tHeld s = 0) {c d : Int} (hc : 0 ≤ c ∧ c < 7) (hd : 0 ≤ d ∧ d < 7) : tm V (tSetHeld s (ishl 1 c)) d = if d = c ∧ 0 ≤ tm V s d then tm V s d + 20 else tm V s d := by
  have e1 : tm V (tSetHeld s (ishl 1 c)) d = if bitI (tSick s) d = 1 then -1 else if d = tBell s then bitI (ishl 1 c) d * 20
      else if vMost V < dst V (tDay s % 28) (tShut s) d (tBell s) then -1
      else walkI (dst V (tDay s % 28) (tShut s) d (tBell s)) (vKind V d) + vLate V d + (if vKind V d = 3 then 15 else 0) + bitI (ishl 1 c) d * 20 := rfl
  have e2 : tm V s d = if bitI (tSick s) d = 1 then -1 else if d = tBell s then bitI 0 d * 20
      else if vMost V < dst V (tDay s % 28) (tShut s) d (tBell s) then -1
      else walkI (dst V (tDay s % 28) (tShut s) d (tBell s)) (vKind V d) + vLate V d + (if vKind V d = 3 then 15 else 0) + bitI 0 d * 20 := by
    unfold tm; rw [h0]
  rw [bit1' hc hd] at e1
  rw [bit0] at e2
  have hl := hW.2.2.2.2.2.1 d
  have hf := dst_in hW (tDay s % 28) (tShut s) d (tBell s)
  have hw := walkI_in (k := vKind V d) hf.1 hf.2
  rw [e1, e2]
  by_cases a : bitI (tSick s) d = 1
  · rw [if_pos a, if_pos a, if_neg (by omega)]
  · rw [if_neg a, if_neg a]
    by_cases b : d = tBell s
    · rw [if_pos b, if_pos b]
      by_cases e : d = c
      · rw [if_pos e, if_pos ⟨e, by omega⟩]; omega
      · rw [if_neg e, if_neg (fun q => e q.1)]
    · rw [if_neg b, if_neg b]
      by_cases m : vMost V < dst V (tDay s % 28) (tShut s) d (tBell s)
      · rw [if_pos m, if_pos m, if_neg (by omega)]
      · rw [if_neg m, if_neg m]
        generalize walkI (dst V (tDay s % 28) (tShut s) d (tBell s)) (vKind V d) = z at *
        have h3 : 0 ≤ (if vKind V d = 3 then (15 : Int) else 0) := by split <;> omega
        generalize (if vKind V d = 3 then (15 : Int) else 0) = y at *
        by_cases e : d = c
        · rw [if_pos e, if_pos ⟨e, by omega⟩]; omega
        · rw [if_neg e, if_neg (fun q => e q.1)]
theorem sp_latestHolding {σ : MS} {V : VT} {s : ST} {c : Int} {Q : Int → Prop} (hW : WFV V) (h0 : tHeld s = 0) (hc : 0 ≤ c ∧ c < vN V) (ht : ∀ d, 0 ≤ d → d < vN V → gI σ 20 d = tv V s d) (hl : gI σ 17 4 = who V s 0)
    (h : Q (who V (tSetHeld s (ishl 1 c)) 0)) : wp_Noon_latestHolding c σ Q := by
  have h7 := hW.2.1
  have hw := who_last s (show 0 ≤ vN V by omega)
  have tH : ∀ d, 0 ≤ d → d < vN V → tm V (tSetHeld s (ishl 1 c)) d = if d = c ∧ 0 ≤ tm V s d then tm V s d + 20 else tm V s d := fun d d1 d2 => tm_hold hW h0 ⟨hc.1, by omega⟩ ⟨d1, by omega⟩
  have fin : ∀ w, IsLast (fun d => tm V (tSetHeld s (ishl 1 c)) d) (vN V) w → Q w := fun w q => by
    rw [who_0 _ (by omega) q] at h; exact h
  clear h
  have eL : ∀ w, (IsLast (fun d => if d = c ∧ 0 ≤ tm V s d then tm V s d + 20 else tm V s d) (vN V) w) → Q w := fun w q => fin w (q.cong (fun d d1 d2 => Or.inl (tH d d1 d2).symm))
  unfold wp_Noon_latestHolding
  rw [hl]
  generalize who V s 0 = w at *
  have tvc : tv V s c = if tm V s c < 0 then -4 else tm V s c := rfl
  have tin := tm_in hW s
  refine ⟨fun q => eL w ?_, fun q => ⟨⟨hc.1, by omega⟩, fun c1 => ?_, fun c1 => eL w ?_⟩⟩
  · rcases hw with ⟨e, h⟩ | ⟨a, b, c', h⟩
    · exact Or.inl ⟨e, fun d d1 d2 => by have h := h d d1 d2; dsimp only at h ⊢; rw [if_neg (by omega)]; exact h⟩
    · omega
  · have hwn := hw.in q
    have twv : tv V s w = tm V s w := by unfold tv; rw [if_neg (by have := hwn.2.2; omega)]
    have hcc : 0 ≤ tm V s c := by
      rw [ht c hc.1 hc.2, tvc] at c1
      by_cases z : tm V s c < 0
      · rw [if_pos z] at c1; exact absurd rfl c1
      · omega
    rw [if_neg (by omega)] at tvc
    rcases hw with ⟨e, h⟩ | ⟨a1, a2, a3, h⟩
    · exact absurd e q
    dsimp only at h a3
    intro x1 e1
    rw [ht c hc.1 hc.2, tvc] at e1
    have r1 := (tin c).2
    rw [ht w a1 a2, twv]
    refine ⟨⟨a1, by omega⟩, ⟨by omega, by omega⟩, fun c2 => eL c ?_, fun c2 => ⟨fun c3 => eL w ?_, fun c3 => ⟨fun c4 => eL w ?_, fun c4 => eL c ?_⟩⟩⟩
    · refine Or.inr ⟨hc.1, hc.2, ?_, fun d d1 d2 d3 => ?_⟩
      · dsimp only; rw [if_pos ⟨rfl, hcc⟩]; omega
      · dsimp only at d3 ⊢
        rw [if_pos (⟨rfl, hcc⟩ : c = c ∧ 0 ≤ tm V s c)]
        by_cases e : d = c
        · exact Or.inr ⟨by rw [if_pos ⟨e, by rw [e]; exact hcc⟩, e], by omega⟩
        · rw [if_neg (fun z => e z.1)] at d3 ⊢
          have := h d d1 d2 d3
          omega
    · have hne : ¬ w = c := fun z => by rw [z] at c2; omega
      refine Or.inr ⟨a1, a2, ?_, fun d d1 d2 d3 => ?_⟩
      · dsimp only; rw [if_neg (show ¬ (w = c ∧ 0 ≤ tm V s w) from fun z => hne z.1)]; exact a3
      · dsimp only at d3 ⊢
        rw [if_neg (show ¬ (w = c ∧ 0 ≤ tm V s w) from fun z => hne z.1)]
        by_cases e : d = c
        · rw [if_pos ⟨e, by rw [e]; exact hcc⟩, e]; omega
        · rw [if_neg (fun z => e z.1)] at d3 ⊢
          exact h d d1 d2 d3
    · have hne : ¬ w = c := fun z => by rw [z] at c3; omega
      refine Or.inr ⟨a1, a2, ?_, fun d d1 d2 d3 => ?_⟩
      · dsimp only; rw [if_neg (show ¬ (w = c ∧ 0 ≤ tm V s w) from fun z => hne z.1)]; exact a3
      · dsimp only at d3 ⊢
        rw [if_neg (show ¬ (w = c ∧ 0 ≤ tm V s w) from fun z => hne z.1)]
        by_cases e : d = c
        · rw [if_pos ⟨e, by rw [e]; exact hcc⟩, e]; omega
        · rw [if_neg (fun z => e z.1)] at d3 ⊢
          exact h d d1 d2 d3
    · refine Or.inr ⟨hc.1, hc.2, ?_, fun d d1 d2 d3 => ?_⟩
      · dsimp only; rw [if_pos ⟨rfl, hcc⟩]; omega
      · dsimp only at d3 ⊢
        rw [if_pos (⟨rfl, hcc⟩ : c = c ∧ 0 ≤ tm V s c)]
        by_cases e : d = c
        · exact Or.inr ⟨by rw [if_pos ⟨e, by rw [e]; exact hcc⟩, e], by omega⟩
        · rw [if_neg (fun z => e z.1)] at d3 ⊢
          have := h d d1 d2 d3
          omega
  · have hcc : tm V s c < 0 := by
      rw [ht c hc.1 hc.2, tvc] at c1
      by_cases z : tm V s c < 0
      · exact z
      · rw [if_neg z] at c1; omega
    refine hw.cong (fun d d1 d2 => Or.inl ?_)
    show tm V s d = if d = c ∧ 0 ≤ tm V s d then tm V s d + 20 else tm V s d
    rw [if_neg (fun z => by rw [z.1] at z; omega)]
