/-! ===== the model's measles, to the end ===== -/
theorem sg_in (V : VT) (s : ST) (hn : 0 ≤ vN V) : 0 ≤ sg V s ∧ sg V s ≤ vN V := by
  have := cnt_in (fun c => decide (bitI (tSick s) c = 1)) (vN V).toNat
  unfold sg
  omega
theorem pw_mul (a b : Int) : ∀ t, pw (a * b) t = pw a t * pw b t := by
  intro t
  induction t with
  | zero => rfl
  | succ t ih =>
    show pw (a * b) t * (a * b) = pw a t * a * (pw b t * b)
    rw [ih, Int.mul_assoc, Int.mul_assoc, Int.mul_left_comm (pw b t)]
theorem sp_M_measles {σ : MS} {A : AT} {B c n x p : Int} {Q : Int64 → MS → Prop} (hC : MI σ A) (hW : WF B A) (hB : 0 ≤ B ∧ B ≤ 800000) (h : ∀ σ' (y : Int64), MI σ' A → y.toInt = fMeasles A c n x p → Q y σ') : wp_M_measles c n x p σ Q := by
  have hn := hW.n
  have hWV := hW.1
  have hb : 0 ≤ tBell (aS A) ∧ tBell (aS A) < vN (aV A) := ⟨hW.2.1.2.2.1, hW.2.1.2.2.2.1⟩
  have bad : ¬ ((0 ≤ c ∧ c < vN (aV A)) ∧ (0 ≤ n ∧ n ≤ 2) ∧ (0 ≤ x ∧ x ≤ 10) ∧ 0 ≤ p ∧ p ≤ 1) → Q (-1) σ := fun q => h σ (-1) hC (by unfold fMeasles; rw [if_neg q]; rfl)
  unfold wp_M_measles
  refine isHomeM hC hW (fun ha => ⟨fun q => absurd q (by decide), fun _ => sp_Min (fun cn => ⟨fun q => absurd q (by decide), fun _ => sp_Min (fun hx => ⟨fun q => absurd q (by decide), fun _ => sp_Min (fun cp => ⟨fun _ => ?_, fun q => absurd q (by decide)⟩) (fun cp => ⟨fun q => absurd rfl q, fun _ => bad (fun q => cp q.2.2.2)⟩)⟩) (fun cx => ⟨fun _ => bad (fun q => cx q.2.2.1), fun q => absurd rfl q⟩)⟩) (fun cn => ⟨fun _ => bad (fun q => cn q.2.1), fun q => absurd rfl q⟩)⟩) (fun ha => ⟨fun _ => bad (fun q => ha q.1), fun q => absurd rfl q⟩)
  have hq := mQ_in hWV (aS A) hx hb
  have hs := sg_in (aV A) (aS A) (by omega)
  -- ten to the number of those that are not sick
  let W : Int := pw 10 (vN (aV A) - sg (aV A) (aS A)).toNat
  have hWp : 1 ≤ W ∧ W ≤ 10000000 := pw10 (by omega)
  refine ⟨(fun y z => 0 ≤ y ∧ y ≤ vN (aV A) ∧ Fr [20] σ z ∧ ∀ a, 0 ≤ a → a < y → (gL z 20 a).toInt = mQ (aV A) (aS A) x 0 a), (fun y _ => (vN (aV A) - y).toNat), ⟨by omega, by omega, Fr.rf, fun a a1 a2 => by omega⟩, ?_⟩
  rintro x1 s1 ⟨g0, g1, hF1, hv1⟩
  have hC1 : MI s1 A := hC.fr hF1 (by decide)
  have p0 : mQ (aV A) (aS A) x 0 x1 = if x1 = tBell (aS A) then 1 else 0 := rfl
  rw [hC1.n, hC1.s.2.1]
  refine ⟨⟨by omega, by omega⟩, fun c1 => ?_, fun c1 => ⟨fun c2 => ⟨⟨by omega, by omega⟩, fun s7 e7 x4 e4 => ⟨⟨by omega, by omega, by rw [e7]; exact hF1.tr (Fr.L (by decide) _ _), fun a a1 a2 => ?_⟩, by dsimp only; omega⟩⟩, fun c2 => ⟨⟨by omega, by omega⟩, fun s7 e7 x4 e4 => ⟨⟨by omega, by omega, by rw [e7]; exact hF1.tr (Fr.L (by decide) _ _), fun a a1 a2 => ?_⟩, by dsimp only; omega⟩⟩⟩⟩
  rotate_left
  · by_cases e : a = x1
    · rw [e7, e, gL_eq, p0, if_neg c2]; rfl
    · rw [e7, gL_nj e]; exact hv1 a a1 (by omega)
  · by_cases e : a = x1
    · rw [e7, e, gL_eq, p0, if_pos c2]; rfl
    · rw [e7, gL_nj e]; exact hv1 a a1 (by omega)
  refine ⟨(fun w y z => 0 ≤ y ∧ y ≤ n ∧ MI z A ∧ (∀ a, 0 ≤ a → a < vN (aV A) → (gL z 20 a).toInt = mQ (aV A) (aS A) x y.toNat a) ∧ w.toInt = pw W y.toNat), (fun _ y _ => (n - y).toNat), ⟨by omega, by omega, hC1, fun a a1 a2 => hv1 a a1 (by omega), rfl⟩, ?_⟩
  rintro w y s2 ⟨g2, g3, hC2, hv2, hw⟩
  refine ⟨⟨by omega, by omega⟩, fun c2 => ⟨⟨by omega, by omega⟩, ?_⟩, fun c2 => ?_⟩
  · have ey : y.toNat = n.toNat := by omega
    rw [ey] at hv2 hw
    have hv := hv2 c ha.1 ha.2
    have hqc := hq n.toNat (by omega) c ha.1 ha.2
    have hWn : 1 ≤ pw W n.toNat := pw_pos (by omega) _
    refine sp_common (by omega) (by omega) (fun r5 e5 => ?_)
    rw [hv, hw] at e5
    have hg := gI2_pos (a := mQ (aV A) (aS A) x n.toNat c) (b := pw W n.toNat) (by omega)
    have hne : ¬ r5 = 0 := fun z => by
      rw [z] at e5
      have : ((0 : Int64)).toInt = 0 := rfl
      omega
    have hgp : 0 < r5.toInt := by omega
    -- the class's numbers are these, by a power of ten
    have hK : 0 < pw (pw 10 (sg (aV A) (aS A)).toNat) n.toNat := by
      have := pw_pos (a := pw 10 (sg (aV A) (aS A)).toNat) (by have := pw_pos (a := 10) (by decide) (sg (aV A) (aS A)).toNat; omega) n.toNat
      omega
    have eP := mQ_eq hWV (aS A) hx n.toNat c ha.1 ha.2
    have eW : pw W n.toNat * pw (pw 10 (sg (aV A) (aS A)).toNat) n.toNat = pw (pw 10 (vN (aV A)).toNat) n.toNat := by
      rw [← pw_mul]
      congr 1
      show pw 10 (vN (aV A) - sg (aV A) (aS A)).toNat * pw 10 (sg (aV A) (aS A)).toNat = _
      rw [← pw_add]
      congr 1
      omega
    have hfm : fMeasles A c n x p = (if p = 0 then mQ (aV A) (aS A) x n.toNat c else pw W n.toNat) / gI2 (mQ (aV A) (aS A) x n.toNat c) (pw W n.toNat) := by
      unfold fMeasles
      rw [if_pos ⟨ha, cn, hx, cp⟩, ← eP, ← eW, gI2_scale hqc.1 (by omega) hK]
      by_cases z : p = 0
      · rw [if_pos z, if_pos z, div_scale hK]
      · rw [if_neg z, if_neg z, div_scale hK]
    refine ⟨fun q => ⟨hne, h s2 _ hC2 ?_⟩, fun q => ⟨hne, h s2 _ hC2 ?_⟩⟩
    · rw [hfm, if_neg q, L_div (by omega) hgp, hw, e5]
    · rw [hfm, if_pos q, L_div (by omega) hgp, hv, e5]
  · obtain ⟨t, rfl⟩ := Int.eq_ofNat_of_zero_le g2
    rw [Int.toNat_natCast] at hv2 hw
    have hwb : 0 ≤ pw W t ∧ pw W t ≤ 10000000 := by
      have : t = 0 ∨ t = 1 := by omega
      rcases this with rfl | rfl
      · exact ⟨by show (0 : Int) ≤ 1; omega, by show (1 : Int) ≤ 10000000; omega⟩
      · show 0 ≤ 1 * W ∧ 1 * W ≤ 10000000
        omega
    refine sp_spreads (t := t) hC2 hW hB hx (by omega) hv2 (fun s3 hC3 hv3 => ?_)
    have hsk : gI s3 13 3 = tSick (aS A) := hC3.s.2.2.2.1
    let p' : Int → Bool := fun c => decide (bitI (tSick (aS A)) c = 1)
    rw [hC3.n, hsk]
    refine ⟨(fun v k => 0 ≤ k ∧ k ≤ vN (aV A) ∧ v.toInt = pw W t * pw 10 (k - cnt p' k.toNat).toNat), (fun _ k => (vN (aV A) - k).toNat), ⟨by omega, by omega, by rw [hw]; show _ = _ * 1; rw [Int.mul_one]⟩, ?_⟩
    rintro v k ⟨j0, j1, hv⟩
    have hcn := cnt_in p' k.toNat
    have h10 := pw10 (k := (k - cnt p' k.toNat).toNat) (by omega)
    have hvb : 0 ≤ v.toInt ∧ v.toInt ≤ 10000000 * 10000000 := by
      rw [hv]
      exact ⟨Int.mul_nonneg hwb.1 (by omega), Int.mul_le_mul hwb.2 h10.2 (by omega) (by decide)⟩
    have cs : cnt p' (k + 1).toNat = cnt p' k.toNat + (if bitI (tSick (aS A)) k = 1 then 1 else 0) := by
      rw [show (k + 1).toNat = k.toNat + 1 by omega]
      show cnt p' k.toNat + (if decide (bitI (tSick (aS A)) ((k.toNat : Nat) : Int) = 1) = true then 1 else 0) = _
      rw [show ((k.toNat : Nat) : Int) = k by omega]
      by_cases z : bitI (tSick (aS A)) k = 1
      · rw [decide_eq_true z, if_pos rfl, if_pos z]
      · rw [decide_eq_false z, if_neg (by decide), if_neg z]
    refine ⟨⟨by omega, by omega⟩, fun c3 x4 e4 => ⟨⟨by omega, by omega, hC3, ?_, ?_⟩, by dsimp only; omega⟩, fun c3 => sp_Mhas (fun qs => ⟨fun z => absurd z (by decide), fun _ y4 e4 x6 e6 => ⟨⟨by omega, by omega, ?_⟩, by dsimp only; omega⟩⟩) (fun qs => ⟨fun _ y3 e3 x5 e5 => ⟨⟨by omega, by omega, ?_⟩, by dsimp only; omega⟩, fun z => absurd rfl z⟩)⟩
    · rw [e4, show ((t : Int) + 1).toNat = t + 1 by omega]; exact hv3
    · rw [hv, e4, show ((t : Int) + 1).toNat = t + 1 by omega]
      show _ = pw W t * W
      congr 1
      have ek : k = vN (aV A) := by omega
      show _ = pw 10 (vN (aV A) - sg (aV A) (aS A)).toNat
      rw [ek]
      rfl
    · have o : ((1 : Int64)).toInt = 1 := rfl
      rw [if_pos qs] at cs
      rw [e4, L_mul (by rw [o]; omega) (by rw [o]; omega), o, Int.mul_one, hv, e6, cs, show (k + 1 - (cnt p' k.toNat + 1)).toNat = (k - cnt p' k.toNat).toNat by omega]
    · have o : ((10 : Int64)).toInt = 10 := rfl
      rw [if_neg qs, Int.add_zero] at cs
      rw [e3, L_mul (by rw [o]; omega) (by rw [o]; omega), o, hv, e5, cs, show (k + 1 - cnt p' k.toNat).toNat = (k - cnt p' k.toNat).toNat + 1 by omega]
      show _ = _ * (pw 10 _ * 10)
      rw [Int.mul_assoc]
