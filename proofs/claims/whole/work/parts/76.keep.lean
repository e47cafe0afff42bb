/-! ===== what is well formed stays so ===== -/
def WK (B : Int) (A : AT) : Prop := WF B A ∧ HB (aS A) ∧ (∀ i, 0 ≤ i → i < aUn A → HB (aUf A i)) ∧ ∀ i, 0 ≤ i → i < aKn A → HB (aKf A i)
theorem WF.mono {B B' : Int} {A : AT} (h : WF B A) (hB : B ≤ B') : WF B' A := by
  obtain ⟨h1, h2, ⟨h3, h3b, h3c⟩, ⟨h4, h4b, h4c⟩, h5, h6⟩ := h
  exact ⟨h1, h2.mono hB, ⟨h3, h3b, fun i i1 i2 => (h3c i i1 i2).mono hB⟩, ⟨h4, h4b, fun i i1 i2 => (h4c i i1 i2).mono hB⟩, h5, h6⟩
theorem WK.mono {B B' : Int} {A : AT} (h : WK B A) (hB : B ≤ B') : WK B' A := ⟨h.1.mono hB, h.2⟩
theorem HB0 {b : Int} (hb : 0 ≤ b ∧ b < 7) : HB (st0 b) := by
  show bitI (ishl 1 b) b = 1
  rw [bit1' hb hb, if_pos rfl]
theorem bit_or {m c : Int} (hm : 0 ≤ m ∧ m < 128) (hc : 0 ≤ c ∧ c < 7) : bitI (ior m (ishl 1 c)) c = 1 := by
  obtain ⟨n, rfl⟩ := Int.eq_ofNat_of_zero_le hm.1
  obtain ⟨k, rfl⟩ := Int.eq_ofNat_of_zero_le hc.1
  obtain ⟨e, h2⟩ := p2_7 hc.1 hc.2
  rw [Int.toNat_natCast] at e h2
  have h3 := Nat.or_lt_two_pow (n := 7) (x := n) (y := 2 ^ k) (by omega) (by omega)
  rw [e, ior_nat (by omega) (by omega), bitI_nat (by omega) (by omega), Nat.testBit_or, Nat.testBit_two_pow, decide_eq_true rfl, Bool.or_true]
  rfl
theorem HB_gby {V : VT} (hW : WFV V) {B : Int} {s : ST} (hs : STB B (vN V) s) : HB (gby V s) := by
  obtain ⟨t1, t2, t3, t4, t5, t6, t7, t8, t9⟩ := hs
  have hx := nxt_in hW (s := s) ⟨t3, t4⟩
  have h7 := hW.2.1
  have hp : 2 ^ (vN V).toNat ≤ 2 ^ 7 := Nat.pow_le_pow_right (by decide) (by omega)
  have hp' : (((2 ^ (vN V).toNat : Nat)) : Int) ≤ 128 := Int.ofNat_le.2 hp
  show bitI (ior (tHad s) (ishl 1 (nxt V s))) (nxt V s) = 1
  exact bit_or ⟨t8, by omega⟩ ⟨hx.1, by omega⟩
theorem HB_gbyN {V : VT} (hW : WFV V) {B : Int} {s : ST} (hs : STB B (vN V) s) (hh : HB s) : ∀ k : Nat, HB (gbyN V k s) := by
  intro k
  cases k with
  | zero => exact hh
  | succ k => exact HB_gby hW (gbyN_in hW hs k)
theorem WK_push {B : Int} {A : AT} (h : WK B A) : WK B (push A) := by
  obtain ⟨⟨h1, h2, ⟨h3, h3b, h3c⟩, h4, h5, h6⟩, k1, k2, k3⟩ := h
  unfold push
  by_cases c : aUn A < 8
  · rw [if_pos c]
    refine ⟨⟨h1, h2, ⟨?_, ?_, fun i i1 i2 => ?_⟩, h4, h5, h6⟩, k1, fun i i1 i2 => ?_, k3⟩
    · show 0 ≤ aUn A + 1; omega
    · show aUn A + 1 ≤ 8; omega
    · have i3 : i < aUn A + 1 := i2
      show STB B (vN (aV A)) (if i = aUn A then aS A else aUf A i)
      split
      · exact h2
      · exact h3c i i1 (by omega)
    · have i3 : i < aUn A + 1 := i2
      show HB (if i = aUn A then aS A else aUf A i)
      split
      · exact k1
      · exact k2 i i1 (by omega)
  · rw [if_neg c]
    refine ⟨⟨h1, h2, ⟨?_, ?_, fun i i1 i2 => ?_⟩, h4, h5, h6⟩, k1, fun i i1 i2 => ?_, k3⟩
    · show (0 : Int) ≤ 8; omega
    · show (8 : Int) ≤ 8; omega
    · have i3 : i < 8 := i2
      show STB B (vN (aV A)) (if i = 7 then aS A else aUf A (i + 1))
      split
      · exact h2
      · exact h3c (i + 1) (by omega) (by omega)
    · have i3 : i < 8 := i2
      show HB (if i = 7 then aS A else aUf A (i + 1))
      split
      · exact k1
      · exact k2 (i + 1) (by omega) (by omega)
theorem WK_wS {B : Int} {A : AT} {s : ST} (h : WK B A) (hs : STB B (vN (aV A)) s) (hh : HB s) : WK B (wS A s) := by
  obtain ⟨⟨h1, h2, h3, h4, h5, h6⟩, k1, k2, k3⟩ := h
  exact ⟨⟨h1, hs, h3, h4, h5, h6⟩, hh, k2, k3⟩
theorem WK_pass {B : Int} {A : AT} {n : Int} (h : WK B A) : WK (B + 28) (nPass A n) := by
  unfold nPass
  split
  · rename_i c
    have hp := (WK_push h).mono (show B ≤ B + 28 by omega)
    refine WK_wS hp ?_ (HB_gbyN h.1.1 h.1.2.1 h.2.1 _)
    rw [aV_push]
    exact (gbyN_in h.1.1 h.1.2.1 n.toNat).mono (by omega)
  · exact h.mono (by omega)
theorem WK_keepBack {B : Int} {A : AT} {c : Int} (h : WK B A) : WK B (nKeepBack A c) := by
  unfold nKeepBack
  split
  · rename_i q
    obtain ⟨t1, t2, t3, t4, t5, t6, t7, t8⟩ := h.1.2.1
    have hn := h.1.n
    refine WK_wS (WK_push h) ?_ h.2.1
    rw [aV_push]
    exact ⟨t1, t2, t3, t4, t5, ixor_in t6 ⟨q.1, by omega⟩, t7, t8⟩
  · exact h
theorem WK_sick {B : Int} {A : AT} {c : Int} (h : WK B A) : WK B (nSick A c) := by
  unfold nSick
  split
  · rename_i q
    obtain ⟨t1, t2, t3, t4, t5, t6, t7, t8⟩ := h.1.2.1
    have hn := h.1.n
    refine WK_wS (WK_push h) ?_ h.2.1
    rw [aV_push]
    exact ⟨t1, t2, t3, t4, t5, t6, ixor_in t7 ⟨q.1, by omega⟩, t8⟩
  · exact h
theorem WK_shut {B : Int} {A : AT} {a b : Int} (h : WK B A) : WK B (nShut A a b) := by
  unfold nShut
  split
  · refine WK_wS (WK_push h) ?_ h.2.1
    rw [aV_push]
    exact h.1.2.1
  · exact h
theorem WK_undo {B : Int} {A : AT} (h : WK B A) : WK B (nUndo A) := by
  obtain ⟨⟨h1, h2, ⟨h3, h3b, h3c⟩, h4, h5, h6⟩, k1, k2, k3⟩ := id h
  unfold nUndo
  split
  · exact h
  · refine ⟨⟨h1, h3c (aUn A - 1) (by omega) (by omega), ⟨?_, ?_, fun i i1 i2 => ?_⟩, h4, h5, h6⟩, k2 (aUn A - 1) (by omega) (by omega), fun i i1 i2 => ?_, k3⟩
    · show 0 ≤ aUn A - 1; omega
    · show aUn A - 1 ≤ 8; omega
    · have i3 : i < aUn A - 1 := i2
      exact h3c i i1 (by omega)
    · have i3 : i < aUn A - 1 := i2
      exact k2 i i1 (by omega)
theorem WK_see {B : Int} {A : AT} {p d : Int} (h : WK B A) : WK B (nSee A p d) := by
  obtain ⟨⟨h1, h2, h3, h4, ⟨h5, h5b, h5c⟩, h6⟩, k⟩ := id h
  unfold nSee
  split
  · rename_i q
    refine ⟨⟨h1, h2, h3, h4, ⟨?_, ?_, fun i i1 i2 => ?_⟩, h6⟩, k⟩
    · show 0 ≤ aEn A + 1; omega
    · show aEn A + 1 ≤ 6; omega
    · have i3 : i < aEn A + 1 := i2
      show (0 ≤ (if i = aEn A then p else aEh A i) ∧ (if i = aEn A then p else aEh A i) < vN (aV A)) ∧ 1 ≤ (if i = aEn A then d else aEd A i) ∧ (if i = aEn A then d else aEd A i) ≤ 28
      by_cases e : i = aEn A
      · rw [if_pos e, if_pos e]; exact ⟨q.1.1, q.1.2⟩
      · rw [if_neg e, if_neg e]; exact h5c i i1 (by omega)
  · exact h
theorem WK_forget {B : Int} {A : AT} (h : WK B A) : WK B (nForget A) := by
  obtain ⟨⟨h1, h2, h3, h4, h5, h6⟩, k⟩ := h
  refine ⟨⟨h1, h2, h3, h4, ⟨?_, ?_, fun i i1 i2 => ?_⟩, h6⟩, k⟩
  · show (0 : Int) ≤ 0; omega
  · show (0 : Int) ≤ 6; omega
  · have i3 : i < 0 := i2; omega
theorem WK_write {B : Int} {A : AT} {l : Int} (h : WK B A) : WK B (nWrite A l) := by
  obtain ⟨⟨h1, h2, h3, h4, h5, h6, h6b, h6c⟩, k⟩ := id h
  unfold nWrite
  split
  · rename_i q
    refine ⟨⟨h1, h2, h3, h4, h5, ?_, ?_, fun i i1 i2 => ?_⟩, k⟩
    · show 0 ≤ aTn A + 1; omega
    · show aTn A + 1 ≤ 200; omega
    · have i3 : i < aTn A + 1 := i2
      show 32 ≤ (if i = aTn A then l else aTl A i) ∧ (if i = aTn A then l else aTl A i) ≤ 126
      by_cases e : i = aTn A
      · rw [if_pos e]; exact q.1
      · rw [if_neg e]; exact h6c i i1 (by omega)
  · exact h
theorem WK_wipe {B : Int} {A : AT} (h : WK B A) : WK B (nWipe A) := by
  obtain ⟨⟨h1, h2, h3, h4, h5, h6⟩, k⟩ := h
  refine ⟨⟨h1, h2, h3, h4, h5, ?_, ?_, fun i i1 i2 => ?_⟩, k⟩
  · show (0 : Int) ≤ 0; omega
  · show (0 : Int) ≤ 200; omega
  · have i3 : i < 0 := i2; omega
theorem WK_keep {B : Int} {A : AT} (h : WK B A) : WK B (nKeep A) := by
  obtain ⟨⟨h1, h2, h3, ⟨h4, h4b, h4c⟩, h5, h6⟩, k1, k2, k3⟩ := id h
  unfold nKeep
  split
  · exact h
  · refine ⟨⟨h1, h2, h3, ⟨?_, ?_, fun i i1 i2 => ?_⟩, h5, h6⟩, k1, k2, fun i i1 i2 => ?_⟩
    · show 0 ≤ aKn A + 1; omega
    · show aKn A + 1 ≤ 2; omega
    · have i3 : i < aKn A + 1 := i2
      show STB B (vN (aV A)) (if i = aKn A then aS A else aKf A i)
      split
      · exact h2
      · exact h4c i i1 (by omega)
    · have i3 : i < aKn A + 1 := i2
      show HB (if i = aKn A then aS A else aKf A i)
      split
      · exact k1
      · exact k3 i i1 (by omega)
theorem WK_back {B : Int} {A : AT} (h : WK B A) : WK B (nBack A) := by
  obtain ⟨⟨h1, h2, h3, ⟨h4, h4b, h4c⟩, h5, h6⟩, k1, k2, k3⟩ := id h
  unfold nBack
  split
  · exact h
  · refine ⟨⟨h1, h4c (aKn A - 1) (by omega) (by omega), ⟨?_, ?_, fun i i1 i2 => ?_⟩, ⟨?_, ?_, fun i i1 i2 => ?_⟩, h5, h6⟩, k3 (aKn A - 1) (by omega) (by omega), fun i i1 i2 => ?_, fun i i1 i2 => ?_⟩
    · show (0 : Int) ≤ 0; omega
    · show (0 : Int) ≤ 8; omega
    · have i3 : i < 0 := i2; omega
    · show 0 ≤ aKn A - 1; omega
    · show aKn A - 1 ≤ 2; omega
    · have i3 : i < aKn A - 1 := i2
      exact h4c i i1 (by omega)
    · have i3 : i < 0 := i2; omega
    · have i3 : i < aKn A - 1 := i2
      exact k3 i i1 (by omega)
theorem WK_laid {B : Int} {A : AT} {d : DT} (hd : WFD d) (hb : dB d < dN d) (hT : 0 ≤ aTn A ∧ aTn A ≤ 200 ∧ ∀ i, 0 ≤ i → i < aTn A → 32 ≤ aTl A i ∧ aTl A i ≤ 126) (hB : 0 ≤ B) : WK B (laidA A d) := by
  refine ⟨⟨WFV_of hd hb, (st0_in ⟨hd.2.1.1, hb⟩ hd.1.2).mono hB, ⟨Int.le_refl 0, by show (0 : Int) ≤ 8; omega, fun i i1 i2 => ?_⟩, ⟨Int.le_refl 0, by show (0 : Int) ≤ 2; omega, fun i i1 i2 => ?_⟩, ⟨Int.le_refl 0, by show (0 : Int) ≤ 6; omega, fun i i1 i2 => ?_⟩, hT⟩, HB0 hd.2.1, fun i i1 i2 => ?_, fun i i1 i2 => ?_⟩
  · have i3 : i < 0 := i2; omega
  · have i3 : i < 0 := i2; omega
  · have i3 : i < 0 := i2; omega
  · have i3 : i < 0 := i2; omega
  · have i3 : i < 0 := i2; omega
theorem WK_lay {B : Int} {A : AT} (h : WK B A) (hB : 0 ≤ B) : WK B (nLay A) := by
  unfold nLay
  split
  · rename_i q
    obtain ⟨⟨h1, h2, h3, h4, h5, h6⟩, -⟩ := h
    exact WK_laid (prs_in 200 WFD0) q.2 h6 hB
  · exact h
