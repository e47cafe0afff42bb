/-! ===== the model: who comes when, who is last, a day goes by ===== -/
theorem sp_arrives {r : Nat} {σ : MS} {V : VT} {c : Int} {Q : Int → Prop} (hN : NM σ V) (hc : 0 ≤ c ∧ c < vN V)
    (hm : gI σ 15 c = dst V (tDay (stR (gI σ r)) % 28) (tShut (stR (gI σ r))) (tBell (stR (gI σ r))) c) (h : Q (tm V (stR (gI σ r)) c)) : wp_M_arrives r c σ Q := by
  have hW := hN.2
  have h7 := hW.2.1
  have hmost := hW.2.2.1
  obtain ⟨e8, e9⟩ := hN.k hc
  have hl := hW.2.2.2.2.2.1 c
  have hk := hW.2.2.2.2.1 c
  have hf := dst_in hW (tDay (stR (gI σ r)) % 28) (tShut (stR (gI σ r))) c (tBell (stR (gI σ r)))
  rw [dst_sym hW] at hm
  have et : tm V (stR (gI σ r)) c = if bitI (gI σ r 3) c = 1 then -1 else if c = gI σ r 0 then bitI (gI σ r 2) c * 20
      else if vMost V < gI σ 15 c then -1
      else (if vKind V c = 1 then gI σ 15 c * 2 else if vKind V c = 2 then gI σ 15 c * 2 / 3 else gI σ 15 c) + vLate V c + (if vKind V c = 3 then 15 else 0) + bitI (gI σ r 2) c * 20 := by rw [hm]; rfl
  have h01 := bitI_01 (gI σ r 2) c
  have hself : c = gI σ r 0 → gI σ 15 c = 0 := by
    intro e
    rw [hm]
    have e' : tBell (stR (gI σ r)) = c := e.symm
    rw [e']
    exact fw_self (fun a b => (eW_in hW _ _ a b).1) _ c
  rw [← hm] at hf
  rw [et] at h
  clear et hm
  unfold wp_M_arrives
  rw [e8, e9, hN.m]
  generalize gI σ 15 c = m at *
  generalize vKind V c = kd at *
  generalize vLate V c = lt at *
  generalize vMost V = mo at *
  generalize hbe : gI σ r 0 = be at *
  have fin : ∀ v, v = (if bitI (gI σ r 3) c = 1 then -1 else if c = be then bitI (gI σ r 2) c * 20
      else if mo < m then -1
      else (if kd = 1 then m * 2 else if kd = 2 then m * 2 / 3 else m) + lt + (if kd = 3 then 15 else 0) + bitI (gI σ r 2) c * 20) → Q v := fun v e => by rw [e]; exact h
  clear h
  refine sp_Mhas (fun q => ⟨fun _ => fin _ (by rw [if_pos q]), fun z => absurd z (by decide)⟩) (fun hs => ⟨fun z => absurd rfl z, fun _ => ⟨⟨by omega, by omega⟩, fun cm => ?_, fun cm => fin _ (by rw [if_neg hs, if_neg (fun z => by have := hself z; omega), if_pos (by omega)])⟩⟩)
  have hh : ∀ X : Int, 0 ≤ X → X ≤ 3000000 → (bitI (gI σ r 2) c = 1 → Q (X + 20)) → (¬ bitI (gI σ r 2) c = 1 → Q (X + 0)) → wp_M_has (gI σ r 2) c (fun r2 => (r2 = 0 → Rng (X + 0) ∧ Q (X + 0)) ∧ (¬ r2 = 0 → Rng (X + 20) ∧ Q (X + 20))) := by
    intro X x1 x2 q1 q0
    exact sp_Mhas (fun q => ⟨fun z => absurd z (by decide), fun _ => ⟨⟨by omega, by omega⟩, q1 q⟩⟩) (fun q => ⟨fun _ => ⟨⟨by omega, by omega⟩, q0 q⟩, fun z => absurd rfl z⟩)
  have node : ∀ X : Int, X = (if kd = 1 then m * 2 else if kd = 2 then m * 2 / 3 else m) →
      (¬ c = be →
       (¬ kd = 3 → ∀ x1 : Int, x1 = ((X + lt) + 0) → wp_M_has (gI σ r 2) c (fun (r2 : Int) => (r2 = 0 → Rng (x1 + 0) ∧ Q (x1 + 0)) ∧ (¬ r2 = 0 → Rng (x1 + 20) ∧ Q (x1 + 20)))) ∧
        (kd = 3 → ∀ x2 : Int, x2 = ((X + lt) + 15) → wp_M_has (gI σ r 2) c (fun (r3 : Int) => (r3 = 0 → Rng (x2 + 0) ∧ Q (x2 + 0)) ∧ (¬ r3 = 0 → Rng (x2 + 20) ∧ Q (x2 + 20))))) ∧
       (c = be → wp_M_has (gI σ r 2) c (fun (r4 : Int) => (r4 = 0 → Q (0 + 0)) ∧ (¬ r4 = 0 → Q (0 + 20)))) := by
    intro X hX
    have hX2 : 0 ≤ X ∧ X ≤ 2000000 := by
      rw [hX]
      (repeat' split) <;> omega
    have val : ∀ v, ¬ c = be → v = X + lt + (if kd = 3 then 15 else 0) + bitI (gI σ r 2) c * 20 → Q v := fun v cb e => fin v (by rw [if_neg hs, if_neg cb, if_neg (by omega), ← hX, e])
    refine ⟨fun cb => ⟨fun c3 x1 e1 => ?_, fun c3 x1 e1 => ?_⟩, fun cb => sp_Mhas (fun q => ⟨fun z => absurd z (by decide), fun _ => fin _ (by rw [if_neg hs, if_pos cb, q]; rfl)⟩) (fun q => ⟨fun _ => fin _ (by rw [if_neg hs, if_pos cb, show bitI (gI σ r 2) c = 0 by omega]; rfl), fun z => absurd rfl z⟩)⟩
    · exact hh x1 (by omega) (by omega) (fun q => val _ cb (by rw [if_neg c3, q]; omega)) (fun q => val _ cb (by rw [if_neg c3, show bitI (gI σ r 2) c = 0 by omega]; omega))
    · exact hh x1 (by omega) (by omega) (fun q => val _ cb (by rw [if_pos c3, q]; omega)) (fun q => val _ cb (by rw [if_pos c3, show bitI (gI σ r 2) c = 0 by omega]; omega))
  refine ⟨fun c1 => ⟨fun c2 => node m (by rw [if_neg c1, if_neg c2]), fun c2 => ⟨⟨by omega, by omega⟩, fun x3 e3 => node x3 (by rw [if_neg c1, if_pos c2, e3, Int.mul_comm])⟩⟩, fun c1 x6 e6 => node x6 (by rw [if_pos c1, e6, Int.mul_comm])⟩
theorem sp_latest {r : Nat} {σ : MS} {V : VT} {mis : Int} {Q : Int → MS → Prop} (hN : NM σ V) (hr : r = 13 ∨ r = 14) (hb : 0 ≤ gI σ r 0 ∧ gI σ r 0 < vN V) (hd : 0 ≤ gI σ r 1 ∧ gI σ r 1 < 2147483648)
    (h : ∀ σ', Fr [15] σ σ' → (∀ c, 0 ≤ c → c < vN V → gI σ' 15 c = dst V (tDay (stR (gI σ r)) % 28) (tShut (stR (gI σ r))) (tBell (stR (gI σ r))) c) → Q (who V (stR (gI σ r)) mis) σ') : wp_M_latest r mis σ Q := by
  have hW := hN.2
  have h7 := hW.2.1
  have n15 : r ∉ [15] := by rcases hr with e | e <;> rw [e] <;> decide
  unfold wp_M_latest
  refine sp_layMinutes hN hr hb hd (fun s1 hF1 hv1 => ?_)
  have hN1 := hN.fr hF1 (by decide)
  have es : stR (gI s1 r) = stR (gI σ r) := by rw [funext (hF1.gI n15)]
  let f : Int → Int := fun c => if bitI mis c = 1 then -1 else tm V (stR (gI σ r)) c
  have hfin : ∀ c, -1 ≤ f c ∧ f c ≤ 2000100 := fun c => by
    show -1 ≤ (if bitI mis c = 1 then -1 else tm V (stR (gI σ r)) c) ∧ (if bitI mis c = 1 then -1 else tm V (stR (gI σ r)) c) ≤ 2000100
    have := tm_in hW (stR (gI σ r)) c
    split <;> omega
  refine ⟨(fun w a x => 0 ≤ x ∧ x ≤ vN V ∧ w = (lst f x.toNat).1 ∧ a = (lst f x.toNat).2), (fun _ _ x => (vN V - x).toNat), ⟨by omega, by omega, rfl, rfl⟩, ?_⟩
  rintro w a x ⟨g0, g1, g2, g3⟩
  rw [hN1.n]
  obtain ⟨q1, q2, q3, q4, q5⟩ := lst_spec f x.toNat
  have hw : w = -4 ∨ 0 ≤ w ∧ w < 7 := by
    rcases q1 with z | z
    · left; rw [g2]; exact z.1
    · right; rw [g2]; exact ⟨z.1, by have := z.2.1; omega⟩
  have ha : -1 ≤ a ∧ a ≤ 2000100 := by
    rw [g3]
    refine ⟨q4, ?_⟩
    by_cases z : (lst f x.toNat).1 = -4
    · rw [q2 z]; decide
    · rw [q3 z]; exact (hfin _).2
  have step : ∀ w' a' x', x' = x + 1 → w' = (if 0 ≤ f x ∧ a ≤ f x then x else w) → a' = (if a < f x then f x else a) → ¬ vN V ≤ x → ((0 ≤ x' ∧ x' ≤ vN V ∧ w' = (lst f x'.toNat).1 ∧ a' = (lst f x'.toNat).2) ∧ (vN V - x').toNat < (vN V - x).toNat) := by
    intro w' a' x' ex ew ea hlt
    refine ⟨⟨by omega, by omega, ?_, ?_⟩, by omega⟩
    · rw [ew, g2, g3, show x'.toNat = x.toNat + 1 by omega]
      show _ = (if 0 ≤ f ((x.toNat : Nat) : Int) ∧ (lst f x.toNat).2 ≤ f ((x.toNat : Nat) : Int) then ((x.toNat : Nat) : Int) else (lst f x.toNat).1)
      rw [show ((x.toNat : Nat) : Int) = x by omega]
    · rw [ea, g3, show x'.toNat = x.toNat + 1 by omega]
      show _ = (if (lst f x.toNat).2 < f ((x.toNat : Nat) : Int) then f ((x.toNat : Nat) : Int) else (lst f x.toNat).2)
      rw [show ((x.toNat : Nat) : Int) = x by omega]
  have hfx := hfin x
  refine ⟨⟨by omega, by omega⟩, fun c => ⟨⟨by omega, by omega⟩, ?_⟩, fun c => ?_⟩
  · have e : w = who V (stR (gI σ r)) mis := by
      rw [g2, show x.toNat = (vN V).toNat by omega]
      rfl
    rw [e]
    exact h s1 hF1 hv1
  · refine sp_Mhas (fun q => ⟨fun z => absurd z (by decide), fun _ => ⟨⟨by omega, by omega⟩, fun c2 x' ex => step _ _ _ ex ?_ ?_ c, fun c2 => by omega⟩⟩) (fun q => ⟨fun _ => ?_, fun z => absurd rfl z⟩)
    · have : f x = -1 := if_pos q
      rw [if_neg (by omega)]
    · have : f x = -1 := if_pos q
      rw [if_neg (by omega)]
    · have ef : f x = tm V (stR (gI σ r)) x := if_neg q
      refine sp_arrives hN1 ⟨g0, by omega⟩ (by rw [es]; exact hv1 x g0 (by omega)) ?_
      rw [es, ← ef]
      refine ⟨fun c2 => ⟨⟨by omega, by omega⟩, fun c3 x' ex => step _ _ _ ex ?_ ?_ c, fun c3 => by omega⟩, fun c2 => ⟨⟨by omega, by omega⟩, fun c3 => ⟨fun c4 x' ex => step _ _ _ ex ?_ ?_ c, fun c4 => by omega⟩, fun c3 => ⟨fun c4 x' ex => step _ _ _ ex ?_ ?_ c, fun c4 x' ex => step _ _ _ ex ?_ ?_ c⟩⟩⟩
      · rw [if_neg (by omega)]
      · rw [if_neg (by omega)]
      · rw [if_neg (by omega)]
      · rw [if_neg (by omega)]
      · rw [if_pos (by omega)]
      · rw [if_neg (by omega)]
      · rw [if_pos (by omega)]
      · rw [if_pos (by omega)]
theorem sp_MgoesBy {r : Nat} {B : Int} {σ : MS} {V : VT} {Q : MS → Prop} (hN : NM σ V) (hr : r = 13 ∨ r = 14) (hB : 0 ≤ B ∧ B ≤ 1000000) (hst : STB B (vN V) (stR (gI σ r)))
    (h : ∀ σ', Fr [15, r] σ σ' → NM σ' V → stR (gI σ' r) = gby V (stR (gI σ r)) → gI σ' r 4 = gI σ r 4 → Q σ') : wp_M_goesBy r σ Q := by
  have hW := hN.2
  have h7 := hW.2.1
  obtain ⟨t1, t2, t3, t4, t5, t6, t7, t8⟩ := hst
  have t1 : 0 ≤ gI σ r 1 := t1
  have t2 : gI σ r 1 ≤ B := t2
  have t3 : 0 ≤ gI σ r 0 := t3
  have t4 : gI σ r 0 < vN V := t4
  have n15 : r ∉ [15] := by rcases hr with e | e <;> rw [e] <;> decide
  have n15' : 15 ∉ [r] := by rcases hr with e | e <;> rw [e] <;> decide
  have hkr : ∀ k ∈ [r], 13 ≤ k ∨ (0 < k ∧ k < 8) := fun k hk => by simp at hk; omega
  have hsp : 0 ≤ gI σ r (6 + gI σ r 0) ∧ gI σ r (6 + gI σ r 0) ≤ 7 * B := by
    have q := t5 (gI σ r 0)
    have e : tSoup (stR (gI σ r)) (gI σ r 0) = gI σ r (6 + gI σ r 0) := by
      show (if _ then _ else _) = _
      rw [if_pos ⟨t3, by omega⟩]
    rw [e] at q
    exact q
  unfold wp_M_goesBy
  refine sp_latest hN hr ⟨t3, t4⟩ ⟨t1, by omega⟩ (fun s1 hF1 hv1 => ?_)
  have e1 : ∀ j, gI s1 r j = gI σ r j := hF1.gI n15
  have hw := who_in hW (stR (gI σ r)) 0
  let cm : Int → Bool := fun c => decide (0 ≤ tm V (stR (gI σ r)) c)
  refine ⟨(fun x s => 0 ≤ x ∧ x ≤ vN V ∧ Fr [r] s1 s ∧ (∀ j, ¬ j = 6 + gI σ r 0 → gI s r j = gI σ r j) ∧ gI s r (6 + gI σ r 0) = gI σ r (6 + gI σ r 0) + cnt cm x.toNat), (fun x _ => (vN V - x).toNat), ⟨by omega, by omega, Fr.rf, fun j _ => e1 j, by rw [e1]; show _ = _ + 0; omega⟩, ?_⟩
  rintro x1 s2 ⟨g0, g1, hF2, hk, hc⟩
  have hN2 : NM s2 V := (hN.fr hF1 (by decide)).fr hF2 hkr
  have hcn := cnt_in cm x1.toNat
  rw [hN2.n, hk 0 (by omega)]
  refine ⟨⟨by omega, by omega⟩, fun c => ?_, fun c => ⟨⟨by omega, by omega⟩, ?_⟩⟩
  · have fin : ∀ z, Fr [r] s2 z → gI z r 0 = nxt V (stR (gI σ r)) → gI z r 5 = ior (gI σ r 5) (ishl 1 (nxt V (stR (gI σ r)))) → gI z r 2 = 0 → gI z r 1 = gI σ r 1 + 1 → (∀ j, ¬ j = 0 → ¬ j = 5 → ¬ j = 2 → ¬ j = 1 → gI z r j = gI s2 r j) → Q z := by
      intro z hFz z0 z5 z2 z1 zo
      refine h z ?_ (hN2.fr hFz hkr) ?_ ?_
      · exact ((hF1.mono (by simp)).tr (hF2.mono (by simp))).tr (hFz.mono (by simp))
      · have e3 : gI z r 3 = gI σ r 3 := by rw [zo 3 (by decide) (by decide) (by decide) (by decide)]; exact hk 3 (by omega)
        have e4 : gI z r 4 = gI σ r 4 := by rw [zo 4 (by decide) (by decide) (by decide) (by decide)]; exact hk 4 (by omega)
        unfold stR gby
        rw [z0, z1, z2, z5, e3, e4]
        show mkS _ _ _ _ _ _ _ = mkS _ _ _ _ _ _ _
        congr 1
        funext y
        show (if _ then _ else _) = (if y = gI σ r 0 then (if _ then _ else _) + _ else (if _ then _ else _))
        by_cases hy : 0 ≤ y ∧ y < 7
        · rw [if_pos hy, if_pos hy, zo (6 + y) (by omega) (by omega) (by omega) (by omega)]
          by_cases hy2 : y = gI σ r 0
          · rw [hy2, hc, if_pos rfl, show x1.toNat = (vN V).toNat by omega]
            rfl
          · rw [hk _ (by omega), if_neg hy2]
        · rw [if_neg hy, if_neg (by omega), if_neg hy]
      · rw [zo 4 (by decide) (by decide) (by decide) (by decide)]; exact hk 4 (by omega)
    refine ⟨fun c2 => ?_, fun c2 => ?_⟩
    · have ex : nxt V (stR (gI σ r)) = who V (stR (gI σ r)) 0 := by unfold nxt; rw [if_neg c2]
      intro s3 e3 s4 e4 s5 e5
      have d1 : gI s5 r 1 = gI σ r 1 := by rw [e5, gI_nj (by decide), e4, gI_nj (by decide), e3, gI_nj (by decide), hk 1 (by omega)]
      rw [d1]
      refine ⟨⟨by omega, by omega⟩, ?_⟩
      intro s6 e6
      have b0 : gI s3 r 0 = nxt V (stR (gI σ r)) := by rw [e3, gI_eq, ex]
      refine fin s6 ?_ ?_ ?_ ?_ ?_ ?_
      · rw [e6, e5, e4, e3]; exact (((Fr.I (by simp) _ _).tr (Fr.I (by simp) _ _)).tr (Fr.I (by simp) _ _)).tr (Fr.I (by simp) _ _)
      · rw [e6, gI_nj (by decide), e5, gI_nj (by decide), e4, gI_nj (by decide), b0]
      · rw [e6, gI_nj (by decide), e5, gI_nj (by decide), e4, gI_eq, b0, e3, gI_nj (by decide), hk 5 (by omega)]
      · rw [e6, gI_nj (by decide), e5, gI_eq]
      · rw [e6, gI_eq]
      · intro j j0 j5 j2 j1
        rw [e6, gI_nj j1, e5, gI_nj j2, e4, gI_nj j5, e3, gI_nj j0]
    · have ex : nxt V (stR (gI σ r)) = gI σ r 0 := by unfold nxt; rw [if_pos c2]; rfl
      intro s3 e3 s4 e4 s5 e5
      have d1 : gI s5 r 1 = gI σ r 1 := by rw [e5, gI_nj (by decide), e4, gI_nj (by decide), e3, gI_nj (by decide), hk 1 (by omega)]
      rw [d1]
      refine ⟨⟨by omega, by omega⟩, ?_⟩
      intro s6 e6
      have b0 : gI s3 r 0 = nxt V (stR (gI σ r)) := by rw [e3, gI_eq, ex]
      refine fin s6 ?_ ?_ ?_ ?_ ?_ ?_
      · rw [e6, e5, e4, e3]; exact (((Fr.I (by simp) _ _).tr (Fr.I (by simp) _ _)).tr (Fr.I (by simp) _ _)).tr (Fr.I (by simp) _ _)
      · rw [e6, gI_nj (by decide), e5, gI_nj (by decide), e4, gI_nj (by decide), b0]
      · rw [e6, gI_nj (by decide), e5, gI_nj (by decide), e4, gI_eq, b0, e3, gI_nj (by decide), hk 5 (by omega)]
      · rw [e6, gI_nj (by decide), e5, gI_eq]
      · rw [e6, gI_eq]
      · intro j j0 j5 j2 j1
        rw [e6, gI_nj j1, e5, gI_nj j2, e4, gI_nj j5, e3, gI_nj j0]
  · have etm : ∀ c, tm V (stR (gI s2 r)) c = tm V (stR (gI σ r)) c := fun c => tm_cong (s' := stR (gI s2 r)) (s := stR (gI σ r)) (hk 1 (by omega)) (hk 0 (by omega)) (hk 2 (by omega)) (hk 3 (by omega)) (by show shM (gI s2 r 4) = shM (gI σ r 4); rw [hk 4 (by omega)]) c
    refine sp_arrives hN2 ⟨g0, by omega⟩ ?_ ?_
    · rw [hF2.gI n15', hv1 x1 g0 (by omega)]
      show dst V (gI σ r 1 % 28) (shM (gI σ r 4)) (gI σ r 0) x1 = dst V (gI s2 r 1 % 28) (shM (gI s2 r 4)) (gI s2 r 0) x1
      rw [hk 1 (by omega), hk 4 (by omega), hk 0 (by omega)]
    · rw [etm, hc]
      have cn : cnt cm (x1 + 1).toNat = cnt cm x1.toNat + (if 0 ≤ tm V (stR (gI σ r)) x1 then 1 else 0) := by
        rw [show (x1 + 1).toNat = x1.toNat + 1 by omega]
        show cnt cm x1.toNat + (if decide (0 ≤ tm V (stR (gI σ r)) ((x1.toNat : Nat) : Int)) = true then 1 else 0) = _
        rw [show ((x1.toNat : Nat) : Int) = x1 by omega]
        by_cases z : 0 ≤ tm V (stR (gI σ r)) x1
        · rw [decide_eq_true z, if_pos rfl, if_pos z]
        · rw [decide_eq_false z, if_neg (by decide), if_neg z]
      refine ⟨fun c2 => ⟨⟨by omega, by omega⟩, ?_⟩, fun c2 => ⟨⟨by omega, by omega⟩, ?_⟩⟩
      · intro s11 e11 x2 e2
        refine ⟨⟨by omega, by omega, by rw [e11]; exact hF2.tr (Fr.I (by simp) _ _), fun j hj => by rw [e11, gI_nj hj]; exact hk j hj, ?_⟩, by dsimp only; omega⟩
        rw [e11, gI_eq, e2, cn, if_neg (by omega)]; omega
      · intro s11 e11 x2 e2
        refine ⟨⟨by omega, by omega, by rw [e11]; exact hF2.tr (Fr.I (by simp) _ _), fun j hj => by rw [e11, gI_nj hj]; exact hk j hj, ?_⟩, by dsimp only; omega⟩
        rw [e11, gI_eq, e2, cn, if_pos (by omega)]; omega
