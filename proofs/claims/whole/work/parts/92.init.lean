/-! ===== the class begins ===== -/
def FTX : String := "h0,5;h1,10;h2,8;h0,20;h3,0;h0,12;w0,1,10;w1,2,15;w2,3,20;w3,4,10;w4,0,25;w4,5,8;w2,5,30;s0,1,3,9;s4,5,5,6;b0;n55;"
def EB (A : Nat → Prop) (U : State) : Prop := NW U ∧ SZ A U U.heap ∧ ∃ k v, vk_R "BellSchool" 89 FTX k U ∧ JK k v A U U.heap
def w1B (h0 : Nat) (w : WDt) (u : Nat → Nat) (z : va_W) : Prop := u 0 = h0 ∧ ∃ σ, z = wl dscC (w.1, u, w.2.2) σ ∧ WT dscC σ ∧ CI σ A0
theorem s0C_TH : TH s0C 0 ftf := ⟨rfl, ⟨by decide, by decide⟩, fun i i1 i2 => by omega⟩
theorem s0C_rows {σ : MS} (h : ∀ k j, gR σ k j = gR s0C k j) : rowsOK σ := by
  have e : ∀ i : Int, 0 ≤ i → i < 8 → gR σ 22 i = 40 + 2 * i.toNat := fun i i1 i2 => by
    rw [h]
    have := s0R22 i.toNat (by omega)
    rw [show ((i.toNat : Nat) : Int) = i by omega] at this
    exact this
  refine ⟨fun i i1 i2 => ?_, fun i j i1 i2 j1 j2 q => ?_⟩
  · rw [e i i1 i2]
    unfold isS
    omega
  · rw [e i i1 i2, e j j1 j2] at q
    omega
theorem ft_ok : (prs (ltr 113 ftf) 113 200 0 dt0).1 = -4 ∧ dB (prs (ltr 113 ftf) 113 200 0 dt0).2 < dN (prs (ltr 113 ftf) 113 200 0 dt0).2 := by
  have e : prs (ltr 113 ftf) 113 200 0 dt0 = ftD := rfl
  rw [e]
  obtain ⟨f0, f1, f2, -⟩ := ft_1
  exact ⟨f0, by rw [f1, f2]; decide⟩
theorem CI_begin {σ : MS} {d : DT} {n : Int} {f : Int → Int} (h : ∀ uf kf eh ed, CI σ (vOf d, st0 (dB d), (0, uf), (0, kf), (0, eh, ed), (n, f))) : CI (sI σ 13 1 0) (Aof d) := by
  obtain ⟨h1, h2, h3, h4, h5, h6, -⟩ := h (fun _ => st0 0) (fun _ => st0 0) (fun _ => 0) (fun _ => 0)
  have hF : Fr [13] σ (sI σ 13 1 0) := Fr.I (by decide) _ _
  refine ⟨h1.fr hF (by decide), h2.fr hF (by decide), h3.fr hF (by decide), h4.fr hF (by decide), h5.fr hF (by decide), h6.fr hF (by decide), by show gI _ 13 1 = (0 : Int); rw [gI_eq], fun i i1 i2 => ?_⟩
  have i3 : i < (0 : Int) := i2
  omega
section BI
variable {A : Nat → Prop} {X : XC} {ad : Nat → Nat}
theorem B_loop (E : NE X prog_1_method_1_code "BellSchool" 2 rm_B) (hZ : SZ A X.1.2.2.2.2.1 X.1.2.2.2.2.1.heap) {k v : Nat} (hK : vk_R "BellSchool" 89 FTX k X.1.2.2.2.2.1) (hJ : JK k v A X.1.2.2.2.2.1 X.1.2.2.2.2.1.heap)
    (hend : ∀ σ, TH σ 113 ftf → (∀ k j, gR σ k j = gR s0C k j) → WT dscC σ → NV A X 184 [(0, .ref (ad 0))] [] (wl dscC (wX X ad) σ) 63 4218) :
    ∀ (n : Nat) (i : Int), 0 ≤ i → i + n = 113 → ∀ σ, TH σ i ftf → (∀ k j, gR σ k j = gR s0C k j) → WT dscC σ → NV A X 155 [(1, .int (iI i)), (0, .ref (ad 0))] [] (wl dscC (wX X ad) σ) 63 4218 := by
  intro n
  induction n with
  | zero =>
    intro i i0 hi σ hT hG hW
    obtain rfl : i = 113 := by omega
    refine n_iloadn E dB_155 rfl 0 rfl ?_
    refine n_ldcS E hK dB_156 ?_
    refine n_jV (As := []) E hJ rfl jd_len (c_len k v) ⟨Nat.le_of_ble_eq_true rfl, Nat.le_of_ble_eq_true rfl⟩ lB_158 dB_158 rfl rfl (Nat.le_of_ble_eq_true rfl) ⟨Nat.le_of_ble_eq_true rfl, Nat.le_of_ble_eq_true rfl⟩ ?_
    refine n_icmp_ge E 184 dB_161 (by decide) (fun _ => ?_) (fun c => absurd (by decide) c)
    exact n_sub [1] rfl (hend σ hT hG hW)
  | succ n ih =>
    intro i i0 hi σ hT hG hW
    have hr : Rng i := ⟨by omega, by omega⟩
    refine n_iloadn E dB_155 rfl 0 rfl ?_
    refine n_ldcS E hK dB_156 ?_
    refine n_jV (As := []) E hJ rfl jd_len (c_len k v) ⟨Nat.le_of_ble_eq_true rfl, Nat.le_of_ble_eq_true rfl⟩ lB_158 dB_158 rfl rfl (Nat.le_of_ble_eq_true rfl) ⟨Nat.le_of_ble_eq_true rfl, Nat.le_of_ble_eq_true rfl⟩ ?_
    refine n_icmp_ge E 184 dB_161 (by decide) (fun c => ?_) (fun _ => ?_)
    · have c2 : iI 113 ≤ iI i := c
      rw [iI_le (by decide) hr] at c2
      omega
    refine n_aloadn E dB_164 rfl 1 rfl ?_
    refine n_getW E cf8 dC_0 2 (by decide) rfl lB_165 dB_165 rfl ?_
    refine n_ldcS E hK dB_168 ?_
    refine n_iloadn E dB_170 rfl 0 rfl ?_
    refine n_jV (As := [.int (iI i)]) E hJ rfl jd_cha (c_cha k v i0 (by omega)) ⟨Nat.le_of_ble_eq_true rfl, Nat.le_of_ble_eq_true rfl⟩ lB_171 dB_171 rfl rfl (Nat.le_of_ble_eq_true rfl) ⟨Nat.le_of_ble_eq_true rfl, Nat.le_of_ble_eq_true rfl⟩ ?_
    have hl := ft_in ⟨i.toNat, by omega⟩
    simp only [show ((i.toNat : Nat) : Int) = i by omega] at hl
    have hwp : wp_Text_add (ftf i) σ (fun _ z => TH z (i + 1) ftf ∧ ∀ k j, gR z k j = gR s0C k j) := by
      unfold wp_Text_add
      rw [hT.1]
      refine ⟨fun _ => ⟨⟨by omega, by omega⟩, ⟨by omega, by omega⟩, fun s1 e1 => ?_⟩, fun c => absurd (by omega) c⟩
      have g1 : gI s1 13 1 = i := by rw [e1, gI_nk (by decide)]; exact hT.1
      rw [g1]
      refine ⟨⟨by omega, by omega⟩, fun s2 e2 => ⟨⟨by rw [e2, gI_eq], ⟨by omega, by omega⟩, fun j j1 j2 => ?_⟩, fun k j => by rw [e2, e1]; exact hG k j⟩⟩
      rw [e2, gI_nk (by decide), e1]
      by_cases e : j = i
      · rw [e, gI_eq]
        exact ⟨rfl, hl⟩
      · rw [gI_nj e]
        exact hT.2.2 j j1 (by omega)
    refine n_callI (wf := []) (wr := []) (b0 := 13) (As := fun _ => [.int (iI (ftf i))]) E hZ hW md_Text_add (c_Text_add (ftf i) ⟨by omega, by omega⟩ σ _ hwp) dC_13 rfl ⟨Nat.le_of_ble_eq_true rfl, Nat.le_of_ble_eq_true rfl⟩ lB_174 dB_174 (fun _ => rfl) rfl (Nat.le_of_ble_eq_true rfl) ⟨Nat.le_of_ble_eq_true rfl, Nat.le_of_ble_eq_true rfl⟩ (by simp) (fun r σ' _ hq hW' => ?_)
    obtain ⟨-, hT', hG'⟩ := hq
    refine n_world (ws' := wl dscC (wX X ad) σ') (by simp) ?_
    refine n_pop E dB_177 rfl ?_
    refine n_iinc (y := iI (i + 1)) (L' := [(1, .int (iI (i + 1))), (0, .ref (ad 0))]) E dB_178 0 rfl (by decide) (iI_add i 1) rfl ?_
    refine n_goto E 155 dB_181 (by decide) ?_
    exact ih (i + 1) (by omega) (by omega) σ' hT' hG' hW'
theorem B_tail {h0 : Nat} (E : NE X prog_1_method_1_code "BellSchool" 2 rm_B) (hEx : EB A X.1.2.2.2.2.1) (hR : NR A X (w1B h0) rm_B) (h : ad 0 = h0) : NV A X 153 [(0, .ref (ad 0))] [] (wl dscC (wX X ad) s0C) 63 4218 := by
  obtain ⟨-, hZ, k, v, hK, hJ⟩ := hEx
  refine n_iconst (v := iI 0) E dB_153 rfl ?_
  refine n_istoren (L' := [(1, .int (iI 0)), (0, .ref (ad 0))]) E dB_154 rfl (by decide) rfl ?_
  refine B_loop E hZ hK hJ (fun σ hT hG hW => ?_) 113 0 (by decide) (by decide) s0C s0C_TH (fun _ _ => rfl) s0C_WT
  refine n_aloadn E dB_184 rfl 0 rfl ?_
  have hwp : wp_B_layText σ (fun _ z => CI (sI z 13 1 0) A0) := by
    refine sp_layText (n := 113) (f := ftf) (Or.inl ⟨hG 0 0, hG 0 1⟩) hT (s0C_rows hG) ⟨hG 24 0, hG 24 1⟩ (fun c => absurd ft_ok c) (fun _ σ' hC _ => ?_)
    exact CI_begin hC
  refine n_callI (wf := []) (wr := []) (b0 := 0) (As := fun _ => []) E hZ hW md_B_layText (c_B_layText σ _ hwp) dC_0 rfl ⟨Nat.le_of_ble_eq_true rfl, Nat.le_of_ble_eq_true rfl⟩ lB_185 dB_185 (fun _ => rfl) rfl (Nat.le_of_ble_eq_true rfl) ⟨Nat.le_of_ble_eq_true rfl, Nat.le_of_ble_eq_true rfl⟩ (by simp) (fun r σ' _ hq hW' => ?_)
  obtain ⟨-, hC⟩ := hq
  refine n_world (ws' := wl dscC (wX X ad) σ') (by simp) ?_
  refine n_pop E dB_188 rfl ?_
  refine n_aloadn E dB_189 rfl 0 rfl ?_
  refine n_getW E cf8 dC_0 2 (by decide) rfl lB_190 dB_190 rfl ?_
  refine n_iconst (v := 0) E dB_193 (by decide) ?_
  refine n_putW (x := 0) E cf6 dC_13 1 (by decide) rfl rfl lB_194 dB_194 rfl rfl rfl rfl ?_
  exact n_vret E hR ad ⟨h, _, rfl, WT_sI hW' 13 1 Rng_0, hC⟩ rfl rfl dB_197
end BI
theorem c_BellSchool_init (h0 : Nat) : CTR ⟨"BellSchool", "<init>", "()V"⟩ prog_1_method_1_code 2 rm_B [.ref h0] [(h0, .inr (8, [.null, .null, .null, .null, .null, .null, .null, .null, .null, .null, .null, .null, .null, .int 0]))] EB (w1B h0) := by
  refine ct_of (by decide) rfl (Nat.le_of_ble_eq_true rfl) (fun A X E hA hR hin hEx => ?_)
  exact w0_B A X h0 E hA hin hEx.1 (fun ad had => B_tail E hEx hR had)
