/-! ===== the abstract state: cells by number; ints as Int, longs as Int64, references as cells' numbers ===== -/
abbrev MS : Type := (Nat → Int → Int) × (Nat → Int → Int64) × (Nat → Int → Nat)
def gI (σ : MS) (k : Nat) (j : Int) : Int := σ.1 k j
def gL (σ : MS) (k : Nat) (j : Int) : Int64 := σ.2.1 k j
def gR (σ : MS) (k : Nat) (j : Int) : Nat := σ.2.2 k j
def sI (σ : MS) (k : Nat) (j : Int) (v : Int) : MS := (fun a b => if a = k ∧ b = j then v else σ.1 a b, σ.2.1, σ.2.2)
def sL (σ : MS) (k : Nat) (j : Int) (v : Int64) : MS := (σ.1, fun a b => if a = k ∧ b = j then v else σ.2.1 a b, σ.2.2)
def sR (σ : MS) (k : Nat) (j : Int) (v : Nat) : MS := (σ.1, σ.2.1, fun a b => if a = k ∧ b = j then v else σ.2.2 a b)
theorem gI_sI (σ : MS) (k : Nat) (j v : Int) (k' : Nat) (j' : Int) : gI (sI σ k j v) k' j' = if k' = k ∧ j' = j then v else gI σ k' j' := rfl
theorem gL_sL (σ : MS) (k : Nat) (j : Int) (v : Int64) (k' : Nat) (j' : Int) : gL (sL σ k j v) k' j' = if k' = k ∧ j' = j then v else gL σ k' j' := rfl
theorem gR_sR (σ : MS) (k : Nat) (j : Int) (v : Nat) (k' : Nat) (j' : Int) : gR (sR σ k j v) k' j' = if k' = k ∧ j' = j then v else gR σ k' j' := rfl
theorem gI_sL (σ : MS) (k : Nat) (j : Int) (v : Int64) (k' : Nat) (j' : Int) : gI (sL σ k j v) k' j' = gI σ k' j' := rfl
theorem gI_sR (σ : MS) (k : Nat) (j : Int) (v : Nat) (k' : Nat) (j' : Int) : gI (sR σ k j v) k' j' = gI σ k' j' := rfl
theorem gL_sI (σ : MS) (k : Nat) (j : Int) (v : Int) (k' : Nat) (j' : Int) : gL (sI σ k j v) k' j' = gL σ k' j' := rfl
theorem gL_sR (σ : MS) (k : Nat) (j : Int) (v : Nat) (k' : Nat) (j' : Int) : gL (sR σ k j v) k' j' = gL σ k' j' := rfl
theorem gR_sI (σ : MS) (k : Nat) (j : Int) (v : Int) (k' : Nat) (j' : Int) : gR (sI σ k j v) k' j' = gR σ k' j' := rfl
theorem gR_sL (σ : MS) (k : Nat) (j : Int) (v : Int64) (k' : Nat) (j' : Int) : gR (sL σ k j v) k' j' = gR σ k' j' := rfl
/-! ===== ints ===== -/
abbrev Rng (x : Int) : Prop := -2147483648 ≤ x ∧ x < 2147483648
def iI (x : Int) : Int32 := Int32.ofInt x
theorem iI_toInt {x : Int} (h : Rng x) : (iI x).toInt = x := Int32.toInt_ofInt_of_le (by have := h.1; omega) (by have := h.2; omega)
theorem iI_of (x : Int32) : iI x.toInt = x := Int32.ofInt_toInt x
theorem Rng_of (x : Int32) : Rng x.toInt := ⟨by have := Int32.le_toInt x; omega, by have := Int32.toInt_lt x; omega⟩
theorem iI_add (a b : Int) : iI a + iI b = iI (a + b) := (Int32.ofInt_add ..).symm
theorem iI_sub (a b : Int) : iI a - iI b = iI (a - b) := (Int32.ofInt_sub ..).symm
theorem iI_mul (a b : Int) : iI a * iI b = iI (a * b) := (Int32.ofInt_mul ..).symm
theorem iI_lt {a b : Int} (ha : Rng a) (hb : Rng b) : iI a < iI b ↔ a < b := by rw [Int32.lt_iff_toInt_lt, iI_toInt ha, iI_toInt hb]
theorem iI_le {a b : Int} (ha : Rng a) (hb : Rng b) : iI a ≤ iI b ↔ a ≤ b := by rw [Int32.le_iff_toInt_le, iI_toInt ha, iI_toInt hb]
theorem iI_eq {a b : Int} (ha : Rng a) (hb : Rng b) : iI a = iI b ↔ a = b := by rw [← Int32.toInt_inj, iI_toInt ha, iI_toInt hb]
theorem iI_0 : iI 0 = 0 := rfl
theorem Rng_0 : Rng 0 := by constructor <;> decide
theorem iI_nat (n : Nat) : iI (n : Int) = Int32.ofNat n := Int32.ofInt_eq_ofNat
theorem iI_clamp {x : Int} (h : 0 ≤ x) (h2 : x < 2147483648) : (iI x).toNatClampNeg = x.toNat := by
  obtain ⟨n, rfl⟩ := Int.eq_ofNat_of_zero_le h
  rw [iI_nat, Int32.toNatClampNeg_ofNat_of_lt (by omega)]
  simp
theorem iI_in {x : Int} {n : Nat} (h : 0 ≤ x) (h2 : x < (n : Int)) (hn : n < 2147483648) : vp_in (iI x) n := by
  have hr : Rng x := ⟨by omega, by omega⟩
  intro q
  rcases q with q | q
  · rw [← iI_0, iI_lt hr Rng_0] at q; omega
  · rw [iI_clamp h (by omega)] at q; omega
def ishl (a b : Int) : Int := (iI a <<< (iI b &&& 31)).toInt
def ishr (a b : Int) : Int := (iI a >>> (iI b &&& 31)).toInt
def iushr (a b : Int) : Int := ((iI a).toUInt32 >>> ((iI b).toUInt32 &&& Int32.toUInt32 31)).toInt32.toInt
def iand (a b : Int) : Int := (iI a &&& iI b).toInt
def ior (a b : Int) : Int := (iI a ||| iI b).toInt
def ixor (a b : Int) : Int := (iI a ^^^ iI b).toInt
def i2l (a : Int) : Int64 := (iI a).toInt64
def l2i (a : Int64) : Int := a.toInt32.toInt
def lshl (a : Int64) (b : Int) : Int64 := a <<< ((iI b).toInt64 &&& 63)
def lshr (a : Int64) (b : Int) : Int64 := a >>> ((iI b).toInt64 &&& 63)
def lushr (a : Int64) (b : Int) : Int64 := (a.toUInt64 >>> ((iI b).toInt64.toUInt64 &&& Int64.toUInt64 63)).toInt64
theorem iI_div {a b : Int} (ha : 0 ≤ a) (ha2 : a < 2147483648) (hb : 0 < b) (hb2 : b < 2147483648) : iI a / iI b = iI (a / b) := by
  obtain ⟨m, rfl⟩ := Int.eq_ofNat_of_zero_le ha
  obtain ⟨n, rfl⟩ := Int.eq_ofNat_of_zero_le (Int.le_of_lt hb)
  rw [← Int.natCast_ediv, iI_nat, iI_nat, iI_nat]
  exact pk_div (by omega) (by omega) (by omega)
theorem iI_rem {a b : Int} (ha : 0 ≤ a) (ha2 : a < 2147483648) (hb : 0 < b) (hb2 : b < 2147483648) : iI a - iI a / iI b * iI b = iI (a % b) := by
  rw [iI_div ha ha2 hb hb2, iI_mul, iI_sub]
  congr 1
  rw [Int.emod_def, Int.mul_comm]
theorem iI_char {a : Int} (ha : Rng a) : ((iI a).toUInt32 % 65536).toInt32 = iI (a % 65536) := by
  rw [pk_char, show nI ((iI a).toBitVec.toNat % 65536) = iI (((iI a).toBitVec.toNat % 65536 : Nat) : Int) from (iI_nat _).symm]
  congr 1
  have h1 : ((iI a).toBitVec.toNat : Int) = a % 4294967296 := by
    have h2 : (iI a).toBitVec = BitVec.ofInt 32 a := rfl
    rw [h2, BitVec.toNat_ofInt]
    have : (0 : Int) ≤ a % 4294967296 := Int.emod_nonneg _ (by decide)
    omega
  omega
theorem iI_nar {a : Int} (h : 0 ≤ a) (h2 : a < 65536) : vp_nar .char (iI a) = iI a := by
  rw [vp_nar_char]
  have := lg_i2c_word (v := iI a) (by rw [iI_toInt ⟨by omega, by omega⟩]; exact h) (by rw [iI_toInt ⟨by omega, by omega⟩]; exact h2)
  rw [lg_i2c_nf] at this
  exact this
/-! ===== the world: a list of descriptors; cell k lies at the address ad k ===== -/
abbrev CD : Type := (Nat × Nat) ⊕ (Nat × List (Nat × Nat))
abbrev WDt : Type := va_G × (Nat → Nat) × ClassId × ClassId × ClassId × ClassId
def fval (ad : Nat → Nat) (σ : MS) (k j : Nat) (f : Nat × Nat) : Value :=
  match f.1 with
  | 0 => .int (iI (gI σ k j))
  | 1 => .long (gL σ k j)
  | 2 => .ref (ad (gR σ k j))
  | 3 => .ref (ad (k + f.2))
  | _ => .ref (ad f.2)
def cellE (w : WDt) (σ : MS) (k : Nat) (cd : CD) : va_E :=
  match cd with
  | .inl (0, n) => .inl (w.2.2.1, n, .inl (fun j => iI (gI σ k j)))
  | .inl (1, n) => .inl (w.2.2.2.1, n, .inr (.inl (fun j => gL σ k j)))
  | .inl (2, n) => .inl (w.2.2.2.2.2, n, .inr (.inr (.inr (.inr (fun j => some (w.2.1 (gR σ k j)))))))
  | .inl (_, n) => .inl (w.2.2.2.2.1, n, .inl (fun j => iI (gI σ k j)))
  | .inr (ci, fs) => .inr (ci, fs.mapIdx (fun j f => fval w.2.1 σ k j f))
def wl (dsc : List CD) (w : WDt) (σ : MS) : va_W := dsc.mapIdx (fun k cd => (w.2.1 k, cellE w σ k cd))
def dTys (w : WDt) : List (ClassId × FieldType) := [(w.2.2.1, .int), (w.2.2.2.1, .long), (w.2.2.2.2.1, .char), (w.2.2.2.2.2, .object "BellSchool$Standing")]
def wA (dsc : List CD) (w : WDt) : Nat → Prop := fun q => ∃ k, k < dsc.length ∧ q = w.2.1 k
abbrev dSt : CD := .inr (5, [(3, 1), (0, 0), (0, 0), (0, 0), (0, 0), (0, 0), (1, 0)])
abbrev dVal : CD := .inr (7, [(3, 1), (3, 2), (3, 3), (3, 4), (3, 5), (0, 0), (0, 0), (0, 0)])
/-- what a reference that changes must be -/
def rreq (dsc : List CD) (k : Nat) (j : Int) : Option CD :=
  match dsc[k]? with
  | some (.inl (2, _)) => some dSt
  | some (.inr (_, fs)) => match fs[j.toNat]? with
    | some (2, _) => some dVal
    | _ => none
  | _ => none
def WT (dsc : List CD) (σ : MS) : Prop := (∀ k j, Rng (gI σ k j)) ∧ ∀ k j d, rreq dsc k j = some d → dsc[gR σ k j]? = some d
def WH (dsc : List CD) (w : WDt) (σ : MS) (H : Heap) : Prop := va_P w.1 CLS (wl dsc w σ) H ∧ WT dsc σ
def HOLD (j : Int) : Int64 := if j = 0 then -6148914691236517206 else if j = 1 then -3689348814741910324 else if j = 2 then -1085102592571150096 else if j = 3 then -71777214294589696 else if j = 4 then -281470681808896 else -4294967296
def HT (t : Nat) (A : Nat → Prop) (U : State) (H : Heap) : Prop := va_T .long t 6 (fun j => .long (HOLD j)) A U H
/-- what nobody writes: links to the one private method that a nest mate calls, the static array -/
def SZ (A : Nat → Prop) (U : State) (H : Heap) : Prop := va_Nw (.methodLinkNest "BellSchool$Valley" 45 ⟨"BellSchool", "pairOf", "(II)I"⟩ "BellSchool") U ∧ va_Nw (.methodLinkNest "BellSchool$Noon" 45 ⟨"BellSchool", "pairOf", "(II)I"⟩ "BellSchool") U ∧ ∃ t : Nat, va_Z "BellSchool$Search" "HOLDING" "[J" (.ref t) A U H ∧ HT t A U H
theorem SZ.kept {A : Nat → Prop} {s U : State} {H0 H : Heap} (h : SZ A s H0) (hW : s.WarmedH U.vm) (hq : ∀ a : Nat, a < H0.size → ¬ A a → H[a]? = H0[a]?) : SZ A U H := by
  obtain ⟨h1, h2, t, h3, h4⟩ := h
  exact ⟨va_Nw.warmM hW h1, va_Nw.warmM hW h2, t, (va_Z.moved hW.alike h3).kept hq, (va_T.moved hW.alike h4).kept hq⟩
theorem SZ.same {A : Nat → Prop} {s U : State} {H : Heap} (h : SZ A s H) (hv : s.vm = U.vm) : SZ A U H := by
  obtain ⟨h1, h2, t, h3, h4⟩ := h
  exact ⟨va_Nw.same rfl hv h1, va_Nw.same rfl hv h2, t, va_Z.moved (by rw [hv]; exact Vm.Alike.refl U.vm) h3, va_T.moved (by rw [hv]; exact Vm.Alike.refl U.vm) h4⟩
def WU (dsc : List CD) (w : WDt) (σ : MS) (U : State) : Prop := WH dsc w σ U.heap ∧ va_K w.1 CLS (dTys w) U ∧ SZ (wA dsc w) U U.heap
def wInj (dsc : List CD) (w : WDt) : Prop := ∀ i j, i < dsc.length → j < dsc.length → w.2.1 i = w.2.1 j → i = j
theorem wl_get {dsc : List CD} {k : Nat} {cd : CD} (w : WDt) (σ : MS) (h : dsc[k]? = some cd) : (wl dsc w σ)[k]? = some (w.2.1 k, cellE w σ k cd) := by
  unfold wl
  rw [List.getElem?_mapIdx, h]
  rfl
theorem wl_D {dsc : List CD} {w : WDt} (hi : wInj dsc w) (σ : MS) : va_D (wA dsc w) (wl dsc w σ) := by
  have key : ∀ (k : Nat) (q : Nat × va_E), (wl dsc w σ)[k]? = some q → k < dsc.length ∧ q.1 = w.2.1 k := by
    intro k q h
    have hl : k < (wl dsc w σ).length := (List.getElem?_eq_some_iff.mp h).1
    unfold wl at hl
    rw [List.length_mapIdx] at hl
    obtain ⟨cd, hc⟩ : ∃ cd, dsc[k]? = some cd := ⟨_, List.getElem?_eq_getElem hl⟩
    rw [wl_get w σ hc] at h
    cases h
    exact ⟨hl, rfl⟩
  refine ⟨fun i j p q hp hq e => ?_, fun k q h => ?_⟩
  · obtain ⟨l1, e1⟩ := key i p hp
    obtain ⟨l2, e2⟩ := key j q hq
    exact hi i j l1 l2 (by rw [← e1, ← e2, e])
  · obtain ⟨l1, e1⟩ := key k q h
    exact ⟨k, l1, e1⟩
theorem wl_set {dsc : List CD} {k : Nat} {cd : CD} {w : WDt} {σ σ' : MS} (h : dsc[k]? = some cd) (hne : ∀ i cd', i ≠ k → cellE w σ' i cd' = cellE w σ i cd') : (wl dsc w σ).set k (w.2.1 k, cellE w σ' k cd) = wl dsc w σ' := by
  have hk : k < dsc.length := (List.getElem?_eq_some_iff.mp h).1
  apply List.ext_getElem?
  intro i
  by_cases hi : i = k
  · subst hi
    rw [List.getElem?_set_self (by unfold wl; rw [List.length_mapIdx]; exact hk), wl_get w σ' h]
  · rw [List.getElem?_set_ne (fun e => hi e.symm)]
    unfold wl
    rw [List.getElem?_mapIdx, List.getElem?_mapIdx]
    cases dsc[i]? with
    | none => rfl
    | some cd' =>
      show some (w.2.1 i, cellE w σ i cd') = some (w.2.1 i, cellE w σ' i cd')
      rw [hne i cd' hi]
theorem fval_sI {ad : Nat → Nat} {σ : MS} {k i j : Nat} {z : Int} {v : Int} {f : Nat × Nat} (h : i ≠ k ∨ (j : Int) ≠ z) : fval ad (sI σ k z v) i j f = fval ad σ i j f := by
  have e : gI (sI σ k z v) i j = gI σ i j := by
    rw [gI_sI, if_neg]
    intro q
    rcases h with h | h
    · exact h q.1
    · exact h q.2
  unfold fval
  rw [e]
  rfl
theorem fval_sL {ad : Nat → Nat} {σ : MS} {k i j : Nat} {z : Int} {v : Int64} {f : Nat × Nat} (h : i ≠ k ∨ (j : Int) ≠ z) : fval ad (sL σ k z v) i j f = fval ad σ i j f := by
  have e : gL (sL σ k z v) i j = gL σ i j := by
    rw [gL_sL, if_neg]
    intro q
    rcases h with h | h
    · exact h q.1
    · exact h q.2
  unfold fval
  rw [e]
  rfl
theorem fval_sR {ad : Nat → Nat} {σ : MS} {k i j : Nat} {z : Int} {v : Nat} {f : Nat × Nat} (h : i ≠ k ∨ (j : Int) ≠ z) : fval ad (sR σ k z v) i j f = fval ad σ i j f := by
  have e : gR (sR σ k z v) i j = gR σ i j := by
    rw [gR_sR, if_neg]
    intro q
    rcases h with h | h
    · exact h q.1
    · exact h q.2
  unfold fval
  rw [e]
  rfl
theorem cellE_of {w : WDt} {σ σ' : MS} {i : Nat} (h1 : ∀ j, gI σ' i j = gI σ i j) (h2 : ∀ j, gL σ' i j = gL σ i j) (h3 : ∀ j, gR σ' i j = gR σ i j) (cd : CD) : cellE w σ' i cd = cellE w σ i cd := by
  have e1 : (fun j : Nat => iI (gI σ' i j)) = fun j : Nat => iI (gI σ i j) := by funext j; rw [h1]
  have e2 : (fun j : Nat => gL σ' i j) = fun j : Nat => gL σ i j := by funext j; rw [h2]
  have e3 : (fun j : Nat => some (w.2.1 (gR σ' i j))) = fun j : Nat => some (w.2.1 (gR σ i j)) := by funext j; rw [h3]
  have e4 : (fun (j : Nat) f => fval w.2.1 σ' i j f) = fun (j : Nat) f => fval w.2.1 σ i j f := by funext j f; unfold fval; rw [h1, h2, h3]
  unfold cellE
  split <;> first | rw [e1] | rw [e2] | rw [e3] | rw [e4]
theorem gI_nk {σ : MS} {k : Nat} {j v : Int} {k' : Nat} {j' : Int} (h : k' ≠ k) : gI (sI σ k j v) k' j' = gI σ k' j' := by
  rw [gI_sI]
  exact if_neg fun q => h q.1
theorem gL_nk {σ : MS} {k : Nat} {j : Int} {v : Int64} {k' : Nat} {j' : Int} (h : k' ≠ k) : gL (sL σ k j v) k' j' = gL σ k' j' := by
  rw [gL_sL]
  exact if_neg fun q => h q.1
theorem gR_nk {σ : MS} {k : Nat} {j : Int} {v : Nat} {k' : Nat} {j' : Int} (h : k' ≠ k) : gR (sR σ k j v) k' j' = gR σ k' j' := by
  rw [gR_sR]
  exact if_neg fun q => h q.1
theorem cellE_sI {w : WDt} {σ : MS} {k i : Nat} {z v : Int} (h : i ≠ k) (cd : CD) : cellE w (sI σ k z v) i cd = cellE w σ i cd :=
  cellE_of (fun _ => gI_nk h) (fun _ => rfl) (fun _ => rfl) cd
theorem cellE_sL {w : WDt} {σ : MS} {k i : Nat} {z : Int} {v : Int64} (h : i ≠ k) (cd : CD) : cellE w (sL σ k z v) i cd = cellE w σ i cd :=
  cellE_of (σ := σ) (σ' := sL σ k z v) (i := i) (fun _ => rfl) (fun _ => gL_nk h) (fun _ => rfl) cd
theorem cellE_sR {w : WDt} {σ : MS} {k i : Nat} {z : Int} {v : Nat} (h : i ≠ k) (cd : CD) : cellE w (sR σ k z v) i cd = cellE w σ i cd :=
  cellE_of (σ := σ) (σ' := sR σ k z v) (i := i) (fun _ => rfl) (fun _ => rfl) (fun _ => gR_nk h) cd
theorem WT_sI {dsc : List CD} {σ : MS} (h : WT dsc σ) (k : Nat) (z : Int) {v : Int} (hv : Rng v) : WT dsc (sI σ k z v) :=
  ⟨fun a b => by rw [gI_sI]; split; exact hv; exact h.1 a b, h.2⟩
theorem WT_sL {dsc : List CD} {σ : MS} (h : WT dsc σ) (k : Nat) (z : Int) (v : Int64) : WT dsc (sL σ k z v) := h
theorem WT_sR {dsc : List CD} {σ : MS} (h : WT dsc σ) (k : Nat) (z : Int) {v : Nat} {d : CD} (hr : rreq dsc k z = some d) (hv : dsc[v]? = some d) : WT dsc (sR σ k z v) :=
  ⟨h.1, fun a b d' q => by
    rw [gR_sR]
    split
    · next e => rw [e.1, e.2, hr] at q; rw [hv]; exact q
    · exact h.2 a b d' q⟩
