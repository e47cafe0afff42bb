/-! ===== the law: its rows, what holds at its loop ===== -/
def prm (xs : Nat → Int32) (j : Int) : Int := (xs j.toNat).toInt
theorem prm_R (xs : Nat → Int32) (j : Int) : Rng (prm xs j) := Rng_of _
def lA (X : XC) : Nat → Prop := fun q => X.1.2.2.2.2.1.heap.size ≤ q
def lL (bS : Nat) (adC adM : Nat → Nat) (i : Int) : List (Nat × Value) := [(3, .int (iI i)), (2, .ref (adM 0)), (1, .ref (adC 0)), (0, .ref bS)]
def LI (i B : Int) (σ τ : MS) (AA : AT) : Prop := WT dscC σ ∧ WT dscM τ ∧ CI σ AA ∧ MI τ AA ∧ WK B AA ∧ 0 ≤ B ∧ 5 * B ≤ 28 * i
def LG (X : XC) (adC adM : Nat → Nat) (a b bS : Nat) (i : Int) : Prop := ∀ σ τ AA B, LI (i + 5) B σ τ AA → NV (lA X) X 785 (lL bS adC adM i) [] (wl dscC (wX X adC) σ ++ wl dscM (wX X adM) τ) a b
section LR
variable {A : Nat → Prop} {X : XC} {cc : ByteArray} {own : String} {nL pc a b : Nat} {rm : Room} {L : List (Nat × Value)} {st : List Value} {ws : va_W} {bS Ls : Nat} {xs : Nat → Int32}
theorem n_slen (E : NE X cc own nL rm) (hX : va_X bS Ls xs X.1.2.2.2.2.1 X.1.2.2.2.2.1.heap) (hbl : bS < X.1.2.2.2.2.1.heap.size) (hbA : ¬ A bS) (hd : decode cc pc = .ok (.arraylength, 1)) (h : NV A X (pc + 1) L (.int (iI Ls) :: st) ws a b) : NV A X pc L (.ref bS :: st) ws a b :=
  fun H locs ls hP hD hS hL => va_slen E.1 E.2.1 hX hbl hbA hS hd (h H locs ls hP hD hS hL)
theorem n_sld (E : NE X cc own nL rm) (hX : va_X bS Ls xs X.1.2.2.2.2.1 X.1.2.2.2.2.1.heap) (hbl : bS < X.1.2.2.2.2.1.heap.size) (hbA : ¬ A bS) {i : Int} (i0 : 0 ≤ i) (i1 : i < Ls) (i2 : Ls ≤ 320) (hd : decode cc pc = .ok (.iaload, 1)) (h : NV A X (pc + 1) L (.int (iI (prm xs i)) :: st) ws a b) : NV A X pc L (.int (iI i) :: .ref bS :: st) ws a b := by
  intro H locs ls hP hD hS hL
  refine va_sld E.1 E.2.1 hX hbl hbA hS (iI_in i0 i1 (by omega)) hd ?_
  have e : xs (iI i).toNatClampNeg = iI (prm xs i) := by
    rw [iI_clamp i0 (by omega)]
    exact (iI_of _).symm
  rw [e]
  exact h H locs ls hP hD hS hL
theorem n_iadd (E : NE X cc own nL rm) {x y : Int} (hd : decode cc pc = .ok (.iadd, 1)) (h : NV A X (pc + 1) L (.int (iI (x + y)) :: st) ws a b) : NV A X pc L (.int (iI y) :: .int (iI x) :: st) ws a b := by
  intro H locs ls hP hD hS hL
  refine lv_iadd E.1 E.2.1 hd ?_
  rw [iI_add]
  exact h H locs ls hP hD hS hL
theorem n_isub (E : NE X cc own nL rm) {x y : Int} (hd : decode cc pc = .ok (.isub, 1)) (h : NV A X (pc + 1) L (.int (iI (x - y)) :: st) ws a b) : NV A X pc L (.int (iI y) :: .int (iI x) :: st) ws a b := by
  intro H locs ls hP hD hS hL
  refine lv_isub E.1 E.2.1 hd ?_
  rw [iI_sub]
  exact h H locs ls hP hD hS hL
theorem n_icmp_gt (E : NE X cc own nL rm) {x y : Int32} {off : Int} (tgt : Nat) (hd : decode cc pc = .ok (.if_icmp .gt off, 3)) (ht : (pc : Int) + off = (tgt : Int)) (h1 : y < x → NV A X tgt L st ws a b) (h2 : ¬ y < x → NV A X (pc + 3) L st ws a b) : NV A X pc L (.int y :: .int x :: st) ws a b :=
  fun H locs ls hP hD hS hL => lv_icmp_gt E.1 E.2.1 hd ht (fun c => h1 c H locs ls hP hD hS hL) (fun c => h2 c H locs ls hP hD hS hL)
theorem n_icmp_eq (E : NE X cc own nL rm) {x y : Int32} {off : Int} (tgt : Nat) (hd : decode cc pc = .ok (.if_icmp .eq off, 3)) (ht : (pc : Int) + off = (tgt : Int)) (h1 : x = y → NV A X tgt L st ws a b) (h2 : ¬ x = y → NV A X (pc + 3) L st ws a b) : NV A X pc L (.int y :: .int x :: st) ws a b :=
  fun H locs ls hP hD hS hL => lv_icmp_eq E.1 E.2.1 hd ht (fun c => h1 c H locs ls hP hD hS hL) (fun c => h2 c H locs ls hP hD hS hL)
theorem n_lcmp (E : NE X cc own nL rm) {x y : Int64} (hd : decode cc pc = .ok (.lcmp, 1)) (h : NV A X (pc + 1) L (.int (lg_cmp x y) :: st) ws a b) : NV A X pc L (.long y :: .long x :: st) ws a b :=
  fun H locs ls hP hD hS hL => W.lcmp E.1 E.2.1 hd (h H locs ls hP hD hS hL)
theorem n_tableIn (E : NE X cc own nL rm) {dflt lo hi : Int} {offs : Array Int} {len : Nat} {x : Int32} {off : Int} (tgt : Nat) (hd : decode cc pc = .ok (.tableswitch dflt lo hi offs, len)) (h1 : ¬ x.toInt < lo) (h2 : ¬ hi < x.toInt) (ho : offs[(x.toInt - lo).toNat]? = some off) (ht : (pc : Int) + off = (tgt : Int)) (h : NV A X tgt L st ws a b) : NV A X pc L (.int x :: st) ws a b :=
  fun H locs ls hP hD hS hL => lv_tableIn E.1 E.2.1 hd h1 h2 ho ht (h H locs ls hP hD hS hL)
theorem n_tableOut (E : NE X cc own nL rm) {dflt lo hi : Int} {offs : Array Int} {len : Nat} {x : Int32} (tgt : Nat) (hd : decode cc pc = .ok (.tableswitch dflt lo hi offs, len)) (hx : x.toInt < lo ∨ hi < x.toInt) (ht : (pc : Int) + dflt = (tgt : Int)) (h : NV A X tgt L st ws a b) : NV A X pc L (.int x :: st) ws a b :=
  fun H locs ls hP hD hS hL => lv_tableOut E.1 E.2.1 hd hx ht (h H locs ls hP hD hS hL)
end LR
section LR2
variable {A : Nat → Prop} {X : XC} {pc a b : Nat} {st : List Value} {ws : va_W} {bS Ls : Nat} {xs : Nat → Int32} {adC adM : Nat → Nat} {i : Int}
/-- an argument of a call: the script's i + k -/
theorem n_arg (E : NE X code "BellSchoolLaw" 4 room_1) (hX : va_X bS Ls xs X.1.2.2.2.2.1 X.1.2.2.2.2.1.heap) (hbl : bS < X.1.2.2.2.2.1.heap.size) (hbA : ¬ A bS) (k : Int) (hk : (0 ≤ i ∧ 0 ≤ k) ∧ i + k < Ls) (i2 : Ls ≤ 320)
    (d0 : decode code pc = .ok (.aload_n 0, 1)) (d1 : decode code (pc + 1) = .ok (.iload_n 3, 1)) (d2 : decode code (pc + 2) = .ok (.iconst k, 1)) (d3 : decode code (pc + 3) = .ok (.iadd, 1)) (d4 : decode code (pc + 4) = .ok (.iaload, 1))
    (h : NV A X (pc + 5) (lL bS adC adM i) (.int (iI (prm xs (i + k))) :: st) ws a b) : NV A X pc (lL bS adC adM i) st ws a b := by
  refine n_aloadn E d0 rfl 3 rfl ?_
  refine n_iloadn E d1 rfl 0 rfl ?_
  refine n_iconst (v := iI k) E d2 rfl ?_
  refine n_iadd E d3 ?_
  exact n_sld E hX hbl hbA (by omega) hk.2 i2 d4 h
end LR2
