/-! ===== the judgement over the abstract state, and a row an instruction ===== -/
abbrev XC : Type := (Program × Launch × Env × Room × State × MethodId) × (Array Value × List Frame × Method × Code) × (WDt × Nat × (State → Prop) × Nat × Nat)
def adX (X : XC) : Nat → Nat := X.2.2.1.2.1
def VV (dsc : List CD) (X : XC) (pc : Nat) (L : List (Nat × Value)) (st : List Value) (σ : MS) : Prop :=
  ∀ (H : Heap) (locs : List Loc) (ls : Array Slot), WH dsc X.2.2.1 σ H → va_S (wA dsc X.2.2.1) X.1.2.2.2.2.1.heap H locs → lv_has ls X.2.2.2.1 L →
    W X.1.1 X.1.2.1 X.1.2.2.1 X.1.2.2.2.1 X.1.2.2.2.2.1 X.1.2.2.2.2.2 X.2.1.1 X.2.1.2.1 X.2.1.2.2.1 X.2.1.2.2.2 H locs X.2.2.2.2.2.1 X.2.2.2.2.2.2 X.2.2.2.2.1 (F0 X.1.2.2.2.2.2 pc ls st)
def EV (dsc : List CD) (X : XC) (cc : ByteArray) (own : String) (nL lv : Nat) : Prop :=
  X.1.1.tables.exec = Jvm.exec ∧ X.2.1.2.2.2.code = cc ∧ X.2.1.2.2.2.maxLocals = nL ∧ X.2.2.2.1 = nL ∧ X.1.2.2.2.2.1.vm.findClass own = some X.1.2.2.2.2.2.cls ∧ (∀ w ∈ TB, w.before X.2.1.1 X.1.2.2.2.2.1 = true) ∧
  va_K X.2.2.1.1 CLS (dTys X.2.2.1) X.1.2.2.2.2.1 ∧ wInj dsc X.2.2.1 ∧ SZ (wA dsc X.2.2.1) X.1.2.2.2.2.1 X.1.2.2.2.2.1.heap ∧ lv ≤ X.1.2.2.2.1.frames ∧ 40 * lv ≤ X.1.2.2.2.1.locals ∧ X.2.1.2.2.1.locks = false ∧ X.2.2.2.2.2.1 ≤ X.1.2.2.2.1.cells ∧ X.2.2.2.2.2.2 ≤ X.1.2.2.2.1.slots
section RW
variable {dsc : List CD} {X : XC} {cc : ByteArray} {own : String} {nL lv pc : Nat} {L L' : List (Nat × Value)} {st : List Value} {σ : MS}
theorem v_iloadn (E : EV dsc X cc own nL lv) {k : Fin 4} {i : Nat} {x : Int32} (hd : decode cc pc = .ok (.iload_n k, 1)) (hi : (k : Nat) = i) (q : Nat) (hl : L[q]? = some (i, .int x)) (h : VV dsc X (pc + 1) L (.int x :: st) σ) : VV dsc X pc L st σ :=
  fun H locs ls hP hS hL => lv_iload_n E.1 E.2.1 hd hi (lv_at hL q hl) (h H locs ls hP hS hL)
theorem v_iload (E : EV dsc X cc own nL lv) {i : Nat} {x : Int32} (hd : decode cc pc = .ok (.iload i, 2)) (q : Nat) (hl : L[q]? = some (i, .int x)) (h : VV dsc X (pc + 2) L (.int x :: st) σ) : VV dsc X pc L st σ :=
  fun H locs ls hP hS hL => lv_iload E.1 E.2.1 hd (lv_at hL q hl) (h H locs ls hP hS hL)
theorem v_lloadn (E : EV dsc X cc own nL lv) {k : Fin 4} {i : Nat} {x : Int64} (hd : decode cc pc = .ok (.lload_n k, 1)) (hi : (k : Nat) = i) (q : Nat) (hl : L[q]? = some (i, .long x)) (h : VV dsc X (pc + 1) L (.long x :: st) σ) : VV dsc X pc L st σ :=
  fun H locs ls hP hS hL => lv_lload_n E.1 E.2.1 hd hi (lv_at hL q hl) (h H locs ls hP hS hL)
theorem v_lload (E : EV dsc X cc own nL lv) {i : Nat} {x : Int64} (hd : decode cc pc = .ok (.lload i, 2)) (q : Nat) (hl : L[q]? = some (i, .long x)) (h : VV dsc X (pc + 2) L (.long x :: st) σ) : VV dsc X pc L st σ :=
  fun H locs ls hP hS hL => lv_lload E.1 E.2.1 hd (lv_at hL q hl) (h H locs ls hP hS hL)
theorem v_aloadn (E : EV dsc X cc own nL lv) {k : Fin 4} {i : Nat} {x : Nat} (hd : decode cc pc = .ok (.aload_n k, 1)) (hi : (k : Nat) = i) (q : Nat) (hl : L[q]? = some (i, .ref x)) (h : VV dsc X (pc + 1) L (.ref x :: st) σ) : VV dsc X pc L st σ :=
  fun H locs ls hP hS hL => lv_aload_n E.1 E.2.1 hd hi (lv_at hL q hl) (h H locs ls hP hS hL)
theorem v_aload (E : EV dsc X cc own nL lv) {i : Nat} {x : Nat} (hd : decode cc pc = .ok (.aload i, 2)) (q : Nat) (hl : L[q]? = some (i, .ref x)) (h : VV dsc X (pc + 2) L (.ref x :: st) σ) : VV dsc X pc L st σ :=
  fun H locs ls hP hS hL => lv_aload E.1 E.2.1 hd (lv_at hL q hl) (h H locs ls hP hS hL)
theorem v_istoren (E : EV dsc X cc own nL lv) {k : Fin 4} {i : Nat} {x : Int32} (hd : decode cc pc = .ok (.istore_n k, 1)) (hi : (k : Nat) = i) (hn : i < nL) (hl : (i, Value.int x) :: L.filter (fun q => !(q.1 == i) && !(q.1 + 1 == i && q.2.category == 2)) = L') (h : VV dsc X (pc + 1) L' st σ) : VV dsc X pc L (.int x :: st) σ :=
  fun H locs ls hP hS hL => lv_istore_n E.1 E.2.1 hd hi hL (by rw [E.2.2.2.1]; exact hn) hl (fun ls' hL' => h H locs ls' hP hS hL')
theorem v_istore (E : EV dsc X cc own nL lv) {i : Nat} {x : Int32} (hd : decode cc pc = .ok (.istore i, 2)) (hn : i < nL) (hl : (i, Value.int x) :: L.filter (fun q => !(q.1 == i) && !(q.1 + 1 == i && q.2.category == 2)) = L') (h : VV dsc X (pc + 2) L' st σ) : VV dsc X pc L (.int x :: st) σ :=
  fun H locs ls hP hS hL => lv_istore E.1 E.2.1 hd hL (by rw [E.2.2.2.1]; exact hn) hl (fun ls' hL' => h H locs ls' hP hS hL')
theorem v_lstoren (E : EV dsc X cc own nL lv) {k : Fin 4} {i : Nat} {x : Int64} (hd : decode cc pc = .ok (.lstore_n k, 1)) (hi : (k : Nat) = i) (hn : i + 1 < nL) (hl : (i, Value.long x) :: L.filter (fun q => !(q.1 == i) && (!(q.1 == i + 1) && !(q.1 + 1 == i && q.2.category == 2))) = L') (h : VV dsc X (pc + 1) L' st σ) : VV dsc X pc L (.long x :: st) σ :=
  fun H locs ls hP hS hL => lv_lstore_n E.1 E.2.1 hd hi hL (by rw [E.2.2.2.1]; exact hn) hl (fun ls' hL' => h H locs ls' hP hS hL')
theorem v_lstore (E : EV dsc X cc own nL lv) {i : Nat} {x : Int64} (hd : decode cc pc = .ok (.lstore i, 2)) (hn : i + 1 < nL) (hl : (i, Value.long x) :: L.filter (fun q => !(q.1 == i) && (!(q.1 == i + 1) && !(q.1 + 1 == i && q.2.category == 2))) = L') (h : VV dsc X (pc + 2) L' st σ) : VV dsc X pc L (.long x :: st) σ :=
  fun H locs ls hP hS hL => lv_lstore E.1 E.2.1 hd hL (by rw [E.2.2.2.1]; exact hn) hl (fun ls' hL' => h H locs ls' hP hS hL')
theorem v_astoren (E : EV dsc X cc own nL lv) {k : Fin 4} {i : Nat} {x : Nat} (hd : decode cc pc = .ok (.astore_n k, 1)) (hi : (k : Nat) = i) (hn : i < nL) (hl : (i, Value.ref x) :: L.filter (fun q => !(q.1 == i) && !(q.1 + 1 == i && q.2.category == 2)) = L') (h : VV dsc X (pc + 1) L' st σ) : VV dsc X pc L (.ref x :: st) σ :=
  fun H locs ls hP hS hL => lv_astore_n E.1 E.2.1 hd hi hL (by rw [E.2.2.2.1]; exact hn) hl (fun ls' hL' => h H locs ls' hP hS hL')
theorem v_iinc (E : EV dsc X cc own nL lv) {i : Nat} {n x : Int} (hd : decode cc pc = .ok (.iinc i n, 3)) (q : Nat) (hl : L[q]? = some (i, .int (iI x))) (hn : i < nL) (hf : (i, Value.int (iI (x + n))) :: L.filter (fun q => !(q.1 == i) && !(q.1 + 1 == i && q.2.category == 2)) = L') (h : VV dsc X (pc + 3) L' st σ) : VV dsc X pc L st σ :=
  fun H locs ls hP hS hL => lv_iinc (k := q) E.1 E.2.1 hd hL hl (iI_add x n) (by rw [E.2.2.2.1]; exact hn) hf (fun ls' hL' => h H locs ls' hP hS hL')
theorem v_sub (ks : List Nat) (hl : lv_pick L ks = L') (h : VV dsc X pc L' st σ) : VV dsc X pc L st σ :=
  fun H locs ls hP hS hL => h H locs ls hP hS (lv_sub hL ks hl)
theorem v_iconst (E : EV dsc X cc own nL lv) {n : Int} (hd : decode cc pc = .ok (.iconst n, 1)) (h : VV dsc X (pc + 1) L (.int (iI n) :: st) σ) : VV dsc X pc L st σ :=
  fun H locs ls hP hS hL => lv_iconst E.1 E.2.1 hd rfl (h H locs ls hP hS hL)
theorem v_bipush (E : EV dsc X cc own nL lv) {n : Int} (hd : decode cc pc = .ok (.bipush n, 2)) (hv : (Int8.ofInt n).toInt32 = iI n) (h : VV dsc X (pc + 2) L (.int (iI n) :: st) σ) : VV dsc X pc L st σ :=
  fun H locs ls hP hS hL => lv_bipush E.1 E.2.1 hd hv (h H locs ls hP hS hL)
theorem v_sipush (E : EV dsc X cc own nL lv) {n : Int} (hd : decode cc pc = .ok (.sipush n, 3)) (hv : (Int16.ofInt n).toInt32 = iI n) (h : VV dsc X (pc + 3) L (.int (iI n) :: st) σ) : VV dsc X pc L st σ :=
  fun H locs ls hP hS hL => lv_sipush E.1 E.2.1 hd hv (h H locs ls hP hS hL)
theorem v_ldc (E : EV dsc X cc own nL lv) {n : Int} {v : Int32} {ix : Nat} (hw : Cond.constant own ix v ∈ TB) (hv : v = iI n) (hd : decode cc pc = .ok (.ldc ix, 2)) (h : VV dsc X (pc + 2) L (.int (iI n) :: st) σ) : VV dsc X pc L st σ :=
  fun H locs ls hP hS hL => lv_ldc E.1 E.2.1 E.2.2.2.2.1 (E.2.2.2.2.2.1 _ hw) hd (by rw [hv]; exact h H locs ls hP hS hL)
theorem v_ldcw (E : EV dsc X cc own nL lv) {n : Int} {v : Int32} {ix : Nat} (hw : Cond.constant own ix v ∈ TB) (hv : v = iI n) (hd : decode cc pc = .ok (.ldc_w ix, 3)) (h : VV dsc X (pc + 3) L (.int (iI n) :: st) σ) : VV dsc X pc L st σ :=
  fun H locs ls hP hS hL => lv_ldcw E.1 E.2.1 E.2.2.2.2.1 (E.2.2.2.2.2.1 _ hw) hd (by rw [hv]; exact h H locs ls hP hS hL)
theorem v_ldc2 (E : EV dsc X cc own nL lv) {v : Int64} {ix : Nat} (hw : Cond.constantLong own ix v ∈ TB) (hd : decode cc pc = .ok (.ldc2_w ix, 3)) (h : VV dsc X (pc + 3) L (.long v :: st) σ) : VV dsc X pc L st σ :=
  fun H locs ls hP hS hL => lv_ldc2 E.1 E.2.1 E.2.2.2.2.1 (E.2.2.2.2.2.1 _ hw) hd (h H locs ls hP hS hL)
theorem v_lconst (E : EV dsc X cc own nL lv) {n : Fin 2} (v : Int64) (hv : Int64.ofNat (n : Nat) = v) (hd : decode cc pc = .ok (.lconst n, 1)) (h : VV dsc X (pc + 1) L (.long v :: st) σ) : VV dsc X pc L st σ :=
  fun H locs ls hP hS hL => lv_lconst E.1 E.2.1 hd hv (h H locs ls hP hS hL)
theorem v_dup (E : EV dsc X cc own nL lv) {a : Value} (hd : decode cc pc = .ok (.dup, 1)) (hc : a.category = 1) (h : VV dsc X (pc + 1) L (a :: a :: st) σ) : VV dsc X pc L (a :: st) σ :=
  fun H locs ls hP hS hL => lv_dup E.1 E.2.1 hd hc (h H locs ls hP hS hL)
theorem v_dup2 (E : EV dsc X cc own nL lv) {a b : Value} (hd : decode cc pc = .ok (.dup2, 1)) (ha : a.category = 1) (hb : b.category = 1) (h : VV dsc X (pc + 1) L (a :: b :: a :: b :: st) σ) : VV dsc X pc L (a :: b :: st) σ :=
  fun H locs ls hP hS hL => lv_dup2_11 E.1 E.2.1 hd ha hb (h H locs ls hP hS hL)
theorem v_pop (E : EV dsc X cc own nL lv) {a : Value} (hd : decode cc pc = .ok (.pop, 1)) (hc : a.category = 1) (h : VV dsc X (pc + 1) L st σ) : VV dsc X pc L (a :: st) σ :=
  fun H locs ls hP hS hL => lv_pop E.1 E.2.1 hd hc (h H locs ls hP hS hL)
theorem v_goto (E : EV dsc X cc own nL lv) {off : Int} (tgt : Nat) (hd : decode cc pc = .ok (.goto off, 3)) (ht : (pc : Int) + off = (tgt : Int)) (h : VV dsc X tgt L st σ) : VV dsc X pc L st σ :=
  fun H locs ls hP hS hL => lv_goto E.1 E.2.1 hd ht (h H locs ls hP hS hL)
theorem v_iadd (E : EV dsc X cc own nL lv) {a b : Int} (hd : decode cc pc = .ok (.iadd, 1)) (h : VV dsc X (pc + 1) L (.int (iI (a + b)) :: st) σ) : VV dsc X pc L (.int (iI b) :: .int (iI a) :: st) σ :=
  fun H locs ls hP hS hL => lv_iadd E.1 E.2.1 hd (by rw [iI_add]; exact h H locs ls hP hS hL)
theorem v_isub (E : EV dsc X cc own nL lv) {a b : Int} (hd : decode cc pc = .ok (.isub, 1)) (h : VV dsc X (pc + 1) L (.int (iI (a - b)) :: st) σ) : VV dsc X pc L (.int (iI b) :: .int (iI a) :: st) σ :=
  fun H locs ls hP hS hL => lv_isub E.1 E.2.1 hd (by rw [iI_sub]; exact h H locs ls hP hS hL)
theorem v_imul (E : EV dsc X cc own nL lv) {a b : Int} (hd : decode cc pc = .ok (.imul, 1)) (h : VV dsc X (pc + 1) L (.int (iI (a * b)) :: st) σ) : VV dsc X pc L (.int (iI b) :: .int (iI a) :: st) σ :=
  fun H locs ls hP hS hL => lv_imul E.1 E.2.1 hd (by rw [iI_mul]; exact h H locs ls hP hS hL)
theorem v_idiv (E : EV dsc X cc own nL lv) {a b : Int} (hd : decode cc pc = .ok (.idiv, 1)) (ha : 0 ≤ a ∧ a < 2147483648) (hb : 0 < b ∧ b < 2147483648) (h : VV dsc X (pc + 1) L (.int (iI (a / b)) :: st) σ) : VV dsc X pc L (.int (iI b) :: .int (iI a) :: st) σ :=
  fun H locs ls hP hS hL => lv_idiv E.1 E.2.1 hd (fun q => by rw [← iI_0, iI_eq ⟨by omega, hb.2⟩ Rng_0] at q; omega) (by rw [iI_div ha.1 ha.2 hb.1 hb.2]; exact h H locs ls hP hS hL)
theorem v_irem (E : EV dsc X cc own nL lv) {a b : Int} (hd : decode cc pc = .ok (.irem, 1)) (ha : 0 ≤ a ∧ a < 2147483648) (hb : 0 < b ∧ b < 2147483648) (h : VV dsc X (pc + 1) L (.int (iI (a % b)) :: st) σ) : VV dsc X pc L (.int (iI b) :: .int (iI a) :: st) σ :=
  fun H locs ls hP hS hL => lv_irem E.1 E.2.1 hd (fun q => by rw [← iI_0, iI_eq ⟨by omega, hb.2⟩ Rng_0] at q; omega) (by rw [iI_rem ha.1 ha.2 hb.1 hb.2]; exact h H locs ls hP hS hL)
theorem v_iand (E : EV dsc X cc own nL lv) {a b : Int} (hd : decode cc pc = .ok (.iand, 1)) (h : VV dsc X (pc + 1) L (.int (iI (iand a b)) :: st) σ) : VV dsc X pc L (.int (iI b) :: .int (iI a) :: st) σ :=
  fun H locs ls hP hS hL => lv_iand E.1 E.2.1 hd (by rw [← iI_of (iI a &&& iI b)]; exact h H locs ls hP hS hL)
theorem v_ior (E : EV dsc X cc own nL lv) {a b : Int} (hd : decode cc pc = .ok (.ior, 1)) (h : VV dsc X (pc + 1) L (.int (iI (ior a b)) :: st) σ) : VV dsc X pc L (.int (iI b) :: .int (iI a) :: st) σ :=
  fun H locs ls hP hS hL => lv_ior E.1 E.2.1 hd (by rw [← iI_of (iI a ||| iI b)]; exact h H locs ls hP hS hL)
theorem v_ixor (E : EV dsc X cc own nL lv) {a b : Int} (hd : decode cc pc = .ok (.ixor, 1)) (h : VV dsc X (pc + 1) L (.int (iI (ixor a b)) :: st) σ) : VV dsc X pc L (.int (iI b) :: .int (iI a) :: st) σ :=
  fun H locs ls hP hS hL => lv_ixor E.1 E.2.1 hd (by rw [← iI_of (iI a ^^^ iI b)]; exact h H locs ls hP hS hL)
theorem v_ishl (E : EV dsc X cc own nL lv) {a b : Int} (hd : decode cc pc = .ok (.ishl, 1)) (h : VV dsc X (pc + 1) L (.int (iI (ishl a b)) :: st) σ) : VV dsc X pc L (.int (iI b) :: .int (iI a) :: st) σ :=
  fun H locs ls hP hS hL => lv_ishl E.1 E.2.1 hd (by rw [← iI_of (iI a <<< (iI b &&& 31))]; exact h H locs ls hP hS hL)
theorem v_ishr (E : EV dsc X cc own nL lv) {a b : Int} (hd : decode cc pc = .ok (.ishr, 1)) (h : VV dsc X (pc + 1) L (.int (iI (ishr a b)) :: st) σ) : VV dsc X pc L (.int (iI b) :: .int (iI a) :: st) σ :=
  fun H locs ls hP hS hL => lv_ishr E.1 E.2.1 hd (by rw [← iI_of (iI a >>> (iI b &&& 31))]; exact h H locs ls hP hS hL)
theorem v_iushr (E : EV dsc X cc own nL lv) {a b : Int} (hd : decode cc pc = .ok (.iushr, 1)) (h : VV dsc X (pc + 1) L (.int (iI (iushr a b)) :: st) σ) : VV dsc X pc L (.int (iI b) :: .int (iI a) :: st) σ :=
  fun H locs ls hP hS hL => lv_iushr E.1 E.2.1 hd (iI_of _).symm (h H locs ls hP hS hL)
theorem v_i2l (E : EV dsc X cc own nL lv) {a : Int} (hd : decode cc pc = .ok (.i2l, 1)) (h : VV dsc X (pc + 1) L (.long (i2l a) :: st) σ) : VV dsc X pc L (.int (iI a) :: st) σ :=
  fun H locs ls hP hS hL => lv_i2l E.1 E.2.1 hd rfl (h H locs ls hP hS hL)
theorem v_l2i (E : EV dsc X cc own nL lv) {a : Int64} (hd : decode cc pc = .ok (.l2i, 1)) (h : VV dsc X (pc + 1) L (.int (iI (l2i a)) :: st) σ) : VV dsc X pc L (.long a :: st) σ :=
  fun H locs ls hP hS hL => lv_l2i E.1 E.2.1 hd (iI_of _).symm (h H locs ls hP hS hL)
theorem v_i2c (E : EV dsc X cc own nL lv) {a : Int} (hd : decode cc pc = .ok (.i2c, 1)) (ha : Rng a) (h : VV dsc X (pc + 1) L (.int (iI (a % 65536)) :: st) σ) : VV dsc X pc L (.int (iI a) :: st) σ :=
  fun H locs ls hP hS hL => lv_i2c E.1 E.2.1 hd (iI_char ha) (h H locs ls hP hS hL)
theorem v_ladd (E : EV dsc X cc own nL lv) {a b : Int64} (hd : decode cc pc = .ok (.ladd, 1)) (h : VV dsc X (pc + 1) L (.long (a + b) :: st) σ) : VV dsc X pc L (.long b :: .long a :: st) σ :=
  fun H locs ls hP hS hL => lv_ladd E.1 E.2.1 hd (h H locs ls hP hS hL)
theorem v_lsub (E : EV dsc X cc own nL lv) {a b : Int64} (hd : decode cc pc = .ok (.lsub, 1)) (h : VV dsc X (pc + 1) L (.long (a - b) :: st) σ) : VV dsc X pc L (.long b :: .long a :: st) σ :=
  fun H locs ls hP hS hL => lv_lsub E.1 E.2.1 hd (h H locs ls hP hS hL)
theorem v_lmul (E : EV dsc X cc own nL lv) {a b : Int64} (hd : decode cc pc = .ok (.lmul, 1)) (h : VV dsc X (pc + 1) L (.long (a * b) :: st) σ) : VV dsc X pc L (.long b :: .long a :: st) σ :=
  fun H locs ls hP hS hL => lv_lmul E.1 E.2.1 hd (h H locs ls hP hS hL)
theorem v_ldiv (E : EV dsc X cc own nL lv) {a b : Int64} (hd : decode cc pc = .ok (.ldiv, 1)) (hb : ¬ b = 0) (h : VV dsc X (pc + 1) L (.long (a / b) :: st) σ) : VV dsc X pc L (.long b :: .long a :: st) σ :=
  fun H locs ls hP hS hL => lv_ldiv E.1 E.2.1 hd hb (h H locs ls hP hS hL)
def lrem (a b : Int64) : Int64 := a - a / b * b
theorem v_lrem (E : EV dsc X cc own nL lv) {a b : Int64} (hd : decode cc pc = .ok (.lrem, 1)) (hb : ¬ b = 0) (h : VV dsc X (pc + 1) L (.long (lrem a b) :: st) σ) : VV dsc X pc L (.long b :: .long a :: st) σ :=
  fun H locs ls hP hS hL => lv_lrem E.1 E.2.1 hd hb (h H locs ls hP hS hL)
theorem v_land (E : EV dsc X cc own nL lv) {a b : Int64} (hd : decode cc pc = .ok (.land, 1)) (h : VV dsc X (pc + 1) L (.long (a &&& b) :: st) σ) : VV dsc X pc L (.long b :: .long a :: st) σ :=
  fun H locs ls hP hS hL => lv_land E.1 E.2.1 hd (h H locs ls hP hS hL)
theorem v_lor (E : EV dsc X cc own nL lv) {a b : Int64} (hd : decode cc pc = .ok (.lor, 1)) (h : VV dsc X (pc + 1) L (.long (a ||| b) :: st) σ) : VV dsc X pc L (.long b :: .long a :: st) σ :=
  fun H locs ls hP hS hL => lv_lor E.1 E.2.1 hd (h H locs ls hP hS hL)
theorem v_lxor (E : EV dsc X cc own nL lv) {a b : Int64} (hd : decode cc pc = .ok (.lxor, 1)) (h : VV dsc X (pc + 1) L (.long (a ^^^ b) :: st) σ) : VV dsc X pc L (.long b :: .long a :: st) σ :=
  fun H locs ls hP hS hL => lv_lxor E.1 E.2.1 hd (h H locs ls hP hS hL)
theorem v_lshl (E : EV dsc X cc own nL lv) {a : Int64} {b : Int} (hd : decode cc pc = .ok (.lshl, 1)) (h : VV dsc X (pc + 1) L (.long (lshl a b) :: st) σ) : VV dsc X pc L (.int (iI b) :: .long a :: st) σ :=
  fun H locs ls hP hS hL => lv_lshl E.1 E.2.1 hd rfl (h H locs ls hP hS hL)
theorem v_lshr (E : EV dsc X cc own nL lv) {a : Int64} {b : Int} (hd : decode cc pc = .ok (.lshr, 1)) (h : VV dsc X (pc + 1) L (.long (lshr a b) :: st) σ) : VV dsc X pc L (.int (iI b) :: .long a :: st) σ :=
  fun H locs ls hP hS hL => lv_lshr E.1 E.2.1 hd rfl (h H locs ls hP hS hL)
theorem v_lushr (E : EV dsc X cc own nL lv) {a : Int64} {b : Int} (hd : decode cc pc = .ok (.lushr, 1)) (h : VV dsc X (pc + 1) L (.long (lushr a b) :: st) σ) : VV dsc X pc L (.int (iI b) :: .long a :: st) σ :=
  fun H locs ls hP hS hL => lv_lushr E.1 E.2.1 hd rfl (h H locs ls hP hS hL)
theorem v_icmp_eq (E : EV dsc X cc own nL lv) {a b : Int} {off : Int} (tgt : Nat) (hd : decode cc pc = .ok (.if_icmp .eq off, 3)) (ht : (pc : Int) + off = (tgt : Int)) (ha : Rng a) (hb : Rng b) (kt : a = b → VV dsc X tgt L st σ) (kf : ¬ a = b → VV dsc X (pc + 3) L st σ) : VV dsc X pc L (.int (iI b) :: .int (iI a) :: st) σ :=
  fun H locs ls hP hS hL => lv_icmp_eq E.1 E.2.1 hd ht (fun q => kt ((iI_eq ha hb).mp q) H locs ls hP hS hL) (fun q => kf (fun z => q ((iI_eq ha hb).mpr z)) H locs ls hP hS hL)
theorem v_if_eq (E : EV dsc X cc own nL lv) {a : Int} {off : Int} (tgt : Nat) (hd : decode cc pc = .ok (.ifCond .eq off, 3)) (ht : (pc : Int) + off = (tgt : Int)) (ha : Rng a) (kt : a = 0 → VV dsc X tgt L st σ) (kf : ¬ a = 0 → VV dsc X (pc + 3) L st σ) : VV dsc X pc L (.int (iI a) :: st) σ :=
  fun H locs ls hP hS hL => lv_if_eq E.1 E.2.1 hd ht (fun q => kt ((iI_eq ha Rng_0).mp q) H locs ls hP hS hL) (fun q => kf (fun z => q ((iI_eq ha Rng_0).mpr z)) H locs ls hP hS hL)
theorem v_icmp_ne (E : EV dsc X cc own nL lv) {a b : Int} {off : Int} (tgt : Nat) (hd : decode cc pc = .ok (.if_icmp .ne off, 3)) (ht : (pc : Int) + off = (tgt : Int)) (ha : Rng a) (hb : Rng b) (kt : ¬ a = b → VV dsc X tgt L st σ) (kf : a = b → VV dsc X (pc + 3) L st σ) : VV dsc X pc L (.int (iI b) :: .int (iI a) :: st) σ :=
  fun H locs ls hP hS hL => lv_icmp_ne E.1 E.2.1 hd ht (fun q => kt (fun z => q ((iI_eq ha hb).mpr z)) H locs ls hP hS hL) (fun q => kf ((iI_eq ha hb).mp q) H locs ls hP hS hL)
theorem v_if_ne (E : EV dsc X cc own nL lv) {a : Int} {off : Int} (tgt : Nat) (hd : decode cc pc = .ok (.ifCond .ne off, 3)) (ht : (pc : Int) + off = (tgt : Int)) (ha : Rng a) (kt : ¬ a = 0 → VV dsc X tgt L st σ) (kf : a = 0 → VV dsc X (pc + 3) L st σ) : VV dsc X pc L (.int (iI a) :: st) σ :=
  fun H locs ls hP hS hL => lv_if_ne E.1 E.2.1 hd ht (fun q => kt (fun z => q ((iI_eq ha Rng_0).mpr z)) H locs ls hP hS hL) (fun q => kf ((iI_eq ha Rng_0).mp q) H locs ls hP hS hL)
theorem v_icmp_lt (E : EV dsc X cc own nL lv) {a b : Int} {off : Int} (tgt : Nat) (hd : decode cc pc = .ok (.if_icmp .lt off, 3)) (ht : (pc : Int) + off = (tgt : Int)) (ha : Rng a) (hb : Rng b) (kt : a < b → VV dsc X tgt L st σ) (kf : ¬ a < b → VV dsc X (pc + 3) L st σ) : VV dsc X pc L (.int (iI b) :: .int (iI a) :: st) σ :=
  fun H locs ls hP hS hL => lv_icmp_lt E.1 E.2.1 hd ht (fun q => kt ((iI_lt ha hb).mp q) H locs ls hP hS hL) (fun q => kf (fun z => q ((iI_lt ha hb).mpr z)) H locs ls hP hS hL)
theorem v_if_lt (E : EV dsc X cc own nL lv) {a : Int} {off : Int} (tgt : Nat) (hd : decode cc pc = .ok (.ifCond .lt off, 3)) (ht : (pc : Int) + off = (tgt : Int)) (ha : Rng a) (kt : a < 0 → VV dsc X tgt L st σ) (kf : ¬ a < 0 → VV dsc X (pc + 3) L st σ) : VV dsc X pc L (.int (iI a) :: st) σ :=
  fun H locs ls hP hS hL => lv_if_lt E.1 E.2.1 hd ht (fun q => kt ((iI_lt ha Rng_0).mp q) H locs ls hP hS hL) (fun q => kf (fun z => q ((iI_lt ha Rng_0).mpr z)) H locs ls hP hS hL)
theorem v_icmp_ge (E : EV dsc X cc own nL lv) {a b : Int} {off : Int} (tgt : Nat) (hd : decode cc pc = .ok (.if_icmp .ge off, 3)) (ht : (pc : Int) + off = (tgt : Int)) (ha : Rng a) (hb : Rng b) (kt : b ≤ a → VV dsc X tgt L st σ) (kf : ¬ b ≤ a → VV dsc X (pc + 3) L st σ) : VV dsc X pc L (.int (iI b) :: .int (iI a) :: st) σ :=
  fun H locs ls hP hS hL => lv_icmp_ge E.1 E.2.1 hd ht (fun q => kt ((iI_le hb ha).mp q) H locs ls hP hS hL) (fun q => kf (fun z => q ((iI_le hb ha).mpr z)) H locs ls hP hS hL)
theorem v_if_ge (E : EV dsc X cc own nL lv) {a : Int} {off : Int} (tgt : Nat) (hd : decode cc pc = .ok (.ifCond .ge off, 3)) (ht : (pc : Int) + off = (tgt : Int)) (ha : Rng a) (kt : 0 ≤ a → VV dsc X tgt L st σ) (kf : ¬ 0 ≤ a → VV dsc X (pc + 3) L st σ) : VV dsc X pc L (.int (iI a) :: st) σ :=
  fun H locs ls hP hS hL => lv_if_ge E.1 E.2.1 hd ht (fun q => kt ((iI_le Rng_0 ha).mp q) H locs ls hP hS hL) (fun q => kf (fun z => q ((iI_le Rng_0 ha).mpr z)) H locs ls hP hS hL)
theorem v_icmp_gt (E : EV dsc X cc own nL lv) {a b : Int} {off : Int} (tgt : Nat) (hd : decode cc pc = .ok (.if_icmp .gt off, 3)) (ht : (pc : Int) + off = (tgt : Int)) (ha : Rng a) (hb : Rng b) (kt : b < a → VV dsc X tgt L st σ) (kf : ¬ b < a → VV dsc X (pc + 3) L st σ) : VV dsc X pc L (.int (iI b) :: .int (iI a) :: st) σ :=
  fun H locs ls hP hS hL => lv_icmp_gt E.1 E.2.1 hd ht (fun q => kt ((iI_lt hb ha).mp q) H locs ls hP hS hL) (fun q => kf (fun z => q ((iI_lt hb ha).mpr z)) H locs ls hP hS hL)
theorem v_if_gt (E : EV dsc X cc own nL lv) {a : Int} {off : Int} (tgt : Nat) (hd : decode cc pc = .ok (.ifCond .gt off, 3)) (ht : (pc : Int) + off = (tgt : Int)) (ha : Rng a) (kt : 0 < a → VV dsc X tgt L st σ) (kf : ¬ 0 < a → VV dsc X (pc + 3) L st σ) : VV dsc X pc L (.int (iI a) :: st) σ :=
  fun H locs ls hP hS hL => lv_if_gt E.1 E.2.1 hd ht (fun q => kt ((iI_lt Rng_0 ha).mp q) H locs ls hP hS hL) (fun q => kf (fun z => q ((iI_lt Rng_0 ha).mpr z)) H locs ls hP hS hL)
theorem v_icmp_le (E : EV dsc X cc own nL lv) {a b : Int} {off : Int} (tgt : Nat) (hd : decode cc pc = .ok (.if_icmp .le off, 3)) (ht : (pc : Int) + off = (tgt : Int)) (ha : Rng a) (hb : Rng b) (kt : a ≤ b → VV dsc X tgt L st σ) (kf : ¬ a ≤ b → VV dsc X (pc + 3) L st σ) : VV dsc X pc L (.int (iI b) :: .int (iI a) :: st) σ :=
  fun H locs ls hP hS hL => lv_icmp_le E.1 E.2.1 hd ht (fun q => kt ((iI_le ha hb).mp q) H locs ls hP hS hL) (fun q => kf (fun z => q ((iI_le ha hb).mpr z)) H locs ls hP hS hL)
theorem v_if_le (E : EV dsc X cc own nL lv) {a : Int} {off : Int} (tgt : Nat) (hd : decode cc pc = .ok (.ifCond .le off, 3)) (ht : (pc : Int) + off = (tgt : Int)) (ha : Rng a) (kt : a ≤ 0 → VV dsc X tgt L st σ) (kf : ¬ a ≤ 0 → VV dsc X (pc + 3) L st σ) : VV dsc X pc L (.int (iI a) :: st) σ :=
  fun H locs ls hP hS hL => lv_if_le E.1 E.2.1 hd ht (fun q => kt ((iI_le ha Rng_0).mp q) H locs ls hP hS hL) (fun q => kf (fun z => q ((iI_le ha Rng_0).mpr z)) H locs ls hP hS hL)
end RW
section RL
variable {dsc : List CD} {X : XC} {cc : ByteArray} {own : String} {nL lv pc : Nat} {L L' : List (Nat × Value)} {st : List Value} {σ : MS}
/-- lcmp and the branch behind it -/
theorem v_lcmp_eq (E : EV dsc X cc own nL lv) {a b : Int64} {off : Int} (tgt : Nat) (hd0 : decode cc pc = .ok (.lcmp, 1)) (hd : decode cc (pc + 1) = .ok (.ifCond .eq off, 3)) (ht : ((pc + 1 : Nat) : Int) + off = (tgt : Int)) (kt : a = b → VV dsc X tgt L st σ) (kf : ¬ a = b → VV dsc X (pc + 1 + 3) L st σ) : VV dsc X pc L (.long b :: .long a :: st) σ :=
  fun H locs ls hP hS hL => W.lcmp E.1 E.2.1 hd0 (lv_if_eq E.1 E.2.1 hd ht (fun q => kt (by
    by_cases h : a = b
    · exact h
    · by_cases h2 : b < a
      · simp [lg_cmp, h2] at q
      · simp [lg_cmp, h, h2] at q) H locs ls hP hS hL) (fun q => kf (by
    intro h
    subst h
    simp [lg_cmp] at q) H locs ls hP hS hL))
theorem v_lcmp_ne (E : EV dsc X cc own nL lv) {a b : Int64} {off : Int} (tgt : Nat) (hd0 : decode cc pc = .ok (.lcmp, 1)) (hd : decode cc (pc + 1) = .ok (.ifCond .ne off, 3)) (ht : ((pc + 1 : Nat) : Int) + off = (tgt : Int)) (kt : ¬ a = b → VV dsc X tgt L st σ) (kf : a = b → VV dsc X (pc + 1 + 3) L st σ) : VV dsc X pc L (.long b :: .long a :: st) σ :=
  fun H locs ls hP hS hL => W.lcmp E.1 E.2.1 hd0 (lv_if_ne E.1 E.2.1 hd ht (fun q => kt (by
    intro h
    subst h
    simp [lg_cmp] at q) H locs ls hP hS hL) (fun q => kf (by
    by_cases h : a = b
    · exact h
    · by_cases h2 : b < a
      · simp [lg_cmp, h2] at q
      · simp [lg_cmp, h, h2] at q) H locs ls hP hS hL))
theorem lg_c3 (a b : Int64) : (b < a ∧ lg_cmp a b = 1 ∧ ¬ a < b) ∨ (a = b ∧ lg_cmp a b = 0) ∨ (¬ b < a ∧ ¬ a = b ∧ lg_cmp a b = -1 ∧ a < b) := by
  by_cases h : b < a
  · exact Or.inl ⟨h, by simp [lg_cmp, h], lg_lt_not h⟩
  · by_cases h2 : a = b
    · exact Or.inr (Or.inl ⟨h2, by simp [lg_cmp, h, h2]⟩)
    · refine Or.inr (Or.inr ⟨h, h2, by simp [lg_cmp, h, h2], ?_⟩)
      rw [Int64.lt_iff_toInt_lt] at *
      rw [← Int64.toInt_inj] at h2
      omega
theorem v_lcmp_lt (E : EV dsc X cc own nL lv) {a b : Int64} {off : Int} (tgt : Nat) (hd0 : decode cc pc = .ok (.lcmp, 1)) (hd : decode cc (pc + 1) = .ok (.ifCond .lt off, 3)) (ht : ((pc + 1 : Nat) : Int) + off = (tgt : Int)) (kt : a < b → VV dsc X tgt L st σ) (kf : ¬ a < b → VV dsc X (pc + 1 + 3) L st σ) : VV dsc X pc L (.long b :: .long a :: st) σ :=
  fun H locs ls hP hS hL => W.lcmp E.1 E.2.1 hd0 (lv_if_lt E.1 E.2.1 hd ht (fun q => kt (by
    rcases lg_c3 a b with h | h | h
    · rw [h.2.1] at q; exact absurd q (by decide)
    · rw [h.2] at q; exact absurd q (by decide)
    · exact h.2.2.2) H locs ls hP hS hL) (fun q => kf (by
    rcases lg_c3 a b with h | h | h
    · exact h.2.2
    · rw [h.1]; exact fun z => lg_lt_not z z
    · rw [h.2.2.1] at q; exact absurd (by decide) q) H locs ls hP hS hL))
theorem v_lcmp_le (E : EV dsc X cc own nL lv) {a b : Int64} {off : Int} (tgt : Nat) (hd0 : decode cc pc = .ok (.lcmp, 1)) (hd : decode cc (pc + 1) = .ok (.ifCond .le off, 3)) (ht : ((pc + 1 : Nat) : Int) + off = (tgt : Int)) (kt : ¬ b < a → VV dsc X tgt L st σ) (kf : b < a → VV dsc X (pc + 1 + 3) L st σ) : VV dsc X pc L (.long b :: .long a :: st) σ :=
  fun H locs ls hP hS hL => W.lcmp E.1 E.2.1 hd0 (lv_if_le E.1 E.2.1 hd ht (fun q => kt (by
    rcases lg_c3 a b with h | h | h
    · rw [h.2.1] at q; exact absurd q (by decide)
    · rw [h.1]; exact fun z => lg_lt_not z z
    · exact h.1) H locs ls hP hS hL) (fun q => kf (by
    rcases lg_c3 a b with h | h | h
    · exact h.1
    · rw [h.2] at q; exact absurd (by decide) q
    · rw [h.2.2.1] at q; exact absurd (by decide) q) H locs ls hP hS hL))
end RL
/-! ===== the heap's rows ===== -/
theorem rreq_R {dsc : List CD} {k ci j o : Nat} {fs : List (Nat × Nat)} (hk : dsc[k]? = some (.inr (ci, fs))) (hf : fs[j]? = some (2, o)) : rreq dsc k (j : Int) = some dVal := by
  simp [rreq, hk, hf]
theorem rreq_A {dsc : List CD} {k n : Nat} {j : Int} (hk : dsc[k]? = some (.inl (2, n))) : rreq dsc k j = some dSt := by
  simp [rreq, hk]
/-- what a class's field rows need of its table -/
def CF (ci : Nat) (C : String) (T : u_T) (N : Nat) (ty : Nat → FieldType) : Prop :=
  CLS[ci]? = some (C, T, N) ∧ (∀ w ∈ u_ws C T N, w ∈ TB) ∧ (∀ k, k < N → parseFieldDescriptor (T k).2.2.1 = some (ty k)) ∧ ∀ a, a < N → ∀ b, b < N → a ≠ b → (T a).2.1 ≠ (T b).2.1
section RH
variable {dsc : List CD} {X : XC} {cc : ByteArray} {own : String} {nL lv pc : Nat} {L L' : List (Nat × Value)} {st : List Value} {σ : MS}
variable {ci N : Nat} {C : String} {T : u_T} {ty : Nat → FieldType} {k : Nat} {fs : List (Nat × Nat)}
theorem v_getX (E : EV dsc X cc own nL lv) (cf : CF ci C T N ty) (hk : dsc[k]? = some (.inr (ci, fs))) (j : Nat) (hj : j < N) (hdecl : (T j).1 = C) {ix : Nat} (hl : Cond.fieldLink own ix C (T j).2.1 (T j).2.2.1 ∈ TB) (hd : decode cc pc = .ok (.getfield ix, 3)) {f : Nat × Nat} (hf : fs[j]? = some f) (h : ∀ (H : Heap) (locs : List Loc) (ls : Array Slot), WH dsc X.2.2.1 σ H → va_S (wA dsc X.2.2.1) X.1.2.2.2.2.1.heap H locs → lv_has ls X.2.2.2.1 L →
    W X.1.1 X.1.2.1 X.1.2.2.1 X.1.2.2.2.1 X.1.2.2.2.2.1 X.1.2.2.2.2.2 X.2.1.1 X.2.1.2.1 X.2.1.2.2.1 X.2.1.2.2.2 H locs X.2.2.2.2.2.1 X.2.2.2.2.2.2 X.2.2.2.2.1 (F0 X.1.2.2.2.2.2 (pc + 3) ls (fval (adX X) σ k j f :: st))) : VV dsc X pc L (.ref (adX X k) :: st) σ := by
  intro H locs ls hP hS hL
  refine va_get E.1 E.2.1 E.2.2.2.2.2.1 cf.2.1 E.2.2.2.2.1 E.2.2.2.2.2.2.1 hP.1 k (wl_get X.2.2.1 σ hk) cf.1 j hj (E.2.2.2.2.2.1 _ hl) (fun x hx => by rw [hdecl] at hx; exact hx) (v := fval (adX X) σ k j f) ?_ hd (h H locs ls hP hS hL)
  rw [List.getElem?_mapIdx, hf]
  rfl
theorem v_getI (E : EV dsc X cc own nL lv) (cf : CF ci C T N ty) (hk : dsc[k]? = some (.inr (ci, fs))) (j : Nat) (hj : j < N) (hdecl : (T j).1 = C) {ix : Nat} (hl : Cond.fieldLink own ix C (T j).2.1 (T j).2.2.1 ∈ TB) (hd : decode cc pc = .ok (.getfield ix, 3)) {o : Nat} (hf : fs[j]? = some (0, o)) (h : VV dsc X (pc + 3) L (.int (iI (gI σ k j)) :: st) σ) : VV dsc X pc L (.ref (adX X k) :: st) σ :=
  v_getX E cf hk j hj hdecl hl hd hf h
theorem v_getL (E : EV dsc X cc own nL lv) (cf : CF ci C T N ty) (hk : dsc[k]? = some (.inr (ci, fs))) (j : Nat) (hj : j < N) (hdecl : (T j).1 = C) {ix : Nat} (hl : Cond.fieldLink own ix C (T j).2.1 (T j).2.2.1 ∈ TB) (hd : decode cc pc = .ok (.getfield ix, 3)) {o : Nat} (hf : fs[j]? = some (1, o)) (h : VV dsc X (pc + 3) L (.long (gL σ k j) :: st) σ) : VV dsc X pc L (.ref (adX X k) :: st) σ :=
  v_getX E cf hk j hj hdecl hl hd hf h
theorem v_getO (E : EV dsc X cc own nL lv) (cf : CF ci C T N ty) (hk : dsc[k]? = some (.inr (ci, fs))) (j : Nat) (hj : j < N) (hdecl : (T j).1 = C) {ix : Nat} (hl : Cond.fieldLink own ix C (T j).2.1 (T j).2.2.1 ∈ TB) (hd : decode cc pc = .ok (.getfield ix, 3)) {o : Nat} (hf : fs[j]? = some (3, o)) (h : VV dsc X (pc + 3) L (.ref (adX X (k + o)) :: st) σ) : VV dsc X pc L (.ref (adX X k) :: st) σ :=
  v_getX E cf hk j hj hdecl hl hd hf h
theorem v_getA (E : EV dsc X cc own nL lv) (cf : CF ci C T N ty) (hk : dsc[k]? = some (.inr (ci, fs))) (j : Nat) (hj : j < N) (hdecl : (T j).1 = C) {ix : Nat} (hl : Cond.fieldLink own ix C (T j).2.1 (T j).2.2.1 ∈ TB) (hd : decode cc pc = .ok (.getfield ix, 3)) {o : Nat} (hf : fs[j]? = some (4, o)) (h : VV dsc X (pc + 3) L (.ref (adX X o) :: st) σ) : VV dsc X pc L (.ref (adX X k) :: st) σ :=
  v_getX E cf hk j hj hdecl hl hd hf h
theorem v_getR (E : EV dsc X cc own nL lv) (cf : CF ci C T N ty) (hk : dsc[k]? = some (.inr (ci, fs))) (j : Nat) (hj : j < N) (hdecl : (T j).1 = C) {ix : Nat} (hl : Cond.fieldLink own ix C (T j).2.1 (T j).2.2.1 ∈ TB) (hd : decode cc pc = .ok (.getfield ix, 3)) {o : Nat} (hf : fs[j]? = some (2, o)) (h : dsc[gR σ k j]? = some dVal → VV dsc X (pc + 3) L (.ref (adX X (gR σ k j)) :: st) σ) : VV dsc X pc L (.ref (adX X k) :: st) σ := by
  refine v_getX E cf hk j hj hdecl hl hd hf (fun H locs ls hP => ?_)
  exact h (hP.2.2 k j dVal (rreq_R hk hf)) H locs ls hP
theorem mapIdx_set {ad : Nat → Nat} {σ σ' : MS} {k j : Nat} {f : Nat × Nat} (fs : List (Nat × Nat)) (hf : fs[j]? = some f) {v : Value} (hv : fval ad σ' k j f = v) (hne : ∀ i g, i ≠ j → fval ad σ' k i g = fval ad σ k i g) : (fs.mapIdx (fun j f => fval ad σ k j f)).set j v = fs.mapIdx (fun j f => fval ad σ' k j f) := by
  have hj : j < fs.length := (List.getElem?_eq_some_iff.mp hf).1
  apply List.ext_getElem?
  intro i
  by_cases hi : i = j
  · subst hi
    rw [List.getElem?_set_self (by rw [List.length_mapIdx]; exact hj), List.getElem?_mapIdx, hf, ← hv]
    rfl
  · rw [List.getElem?_set_ne (fun e => hi e.symm), List.getElem?_mapIdx, List.getElem?_mapIdx]
    cases fs[i]? with
    | none => rfl
    | some g => exact congrArg some (hne i g hi).symm
theorem v_putX (E : EV dsc X cc own nL lv) (cf : CF ci C T N ty) (hk : dsc[k]? = some (.inr (ci, fs))) (j : Nat) (hj : j < N) (hdecl : (T j).1 = C) (hfin : (T j).2.2.2 = false) {ix : Nat} (hl : Cond.fieldLink own ix C (T j).2.1 (T j).2.2.1 ∈ TB) (hd : decode cc pc = .ok (.putfield ix, 3)) {f : Nat × Nat} (hf : fs[j]? = some f) {v : Value} (hn : narrow (ty j) v = v) (hfit : fits (ty j) v = true) {σ' : MS}
    (h1 : fval (adX X) σ' k j f = v) (h2 : ∀ i g, i ≠ j → fval (adX X) σ' k i g = fval (adX X) σ k i g) (h3 : ∀ i cd, i ≠ k → cellE X.2.2.1 σ' i cd = cellE X.2.2.1 σ i cd) (h4 : WT dsc σ → WT dsc σ') (h : VV dsc X (pc + 3) L st σ') : VV dsc X pc L (v :: .ref (adX X k) :: st) σ := by
  intro H locs ls hP hS hL
  have hw := wl_get X.2.2.1 σ hk
  refine va_put E.1 E.2.1 E.2.2.2.2.2.1 cf.2.1 ty cf.2.2.1 cf.2.2.2 E.2.2.2.2.1 E.2.2.2.2.2.2.1 hP.1 (wl_D E.2.2.2.2.2.2.2.1 σ) hS k hw cf.1 j hj (E.2.2.2.2.2.1 _ hl) (fun x hx => by rw [hdecl] at hx; exact hx) hfin (cf.2.2.1 j hj) hn hfit (by rw [List.length_mapIdx]; exact (List.getElem?_eq_some_iff.mp hf).1) hd (fun H1 locs1 hP1 _ hS1 => ?_)
  refine h H1 locs1 ls ⟨?_, h4 hP.2⟩ hS1 hL
  have e : (fs.mapIdx (fun j f => fval X.2.2.1.2.1 σ k j f)).set j v = fs.mapIdx (fun j f => fval X.2.2.1.2.1 σ' k j f) := mapIdx_set fs hf h1 h2
  rw [e] at hP1
  rw [← wl_set (w := X.2.2.1) (σ := σ) (σ' := σ') hk h3]
  exact hP1
theorem v_putI (E : EV dsc X cc own nL lv) (cf : CF ci C T N ty) (hk : dsc[k]? = some (.inr (ci, fs))) (j : Nat) (hj : j < N) (hdecl : (T j).1 = C) (hfin : (T j).2.2.2 = false) {ix : Nat} (hl : Cond.fieldLink own ix C (T j).2.1 (T j).2.2.1 ∈ TB) (hd : decode cc pc = .ok (.putfield ix, 3)) {o : Nat} (hf : fs[j]? = some (0, o)) {x : Int} (hn : narrow (ty j) (.int (iI x)) = .int (iI x)) (hfit : fits (ty j) (.int (iI x)) = true) (hx : Rng x) (h : VV dsc X (pc + 3) L st (sI σ k j x)) : VV dsc X pc L (.int (iI x) :: .ref (adX X k) :: st) σ :=
  v_putX E cf hk j hj hdecl hfin hl hd hf hn hfit (by show Value.int (iI (gI (sI σ k j x) k j)) = _; rw [gI_sI, if_pos ⟨rfl, rfl⟩]) (fun i g hi => fval_sI (Or.inr (by omega))) (fun i cd hi => cellE_sI hi cd) (fun z => WT_sI z k j hx) h
theorem v_putL (E : EV dsc X cc own nL lv) (cf : CF ci C T N ty) (hk : dsc[k]? = some (.inr (ci, fs))) (j : Nat) (hj : j < N) (hdecl : (T j).1 = C) (hfin : (T j).2.2.2 = false) {ix : Nat} (hl : Cond.fieldLink own ix C (T j).2.1 (T j).2.2.1 ∈ TB) (hd : decode cc pc = .ok (.putfield ix, 3)) {o : Nat} (hf : fs[j]? = some (1, o)) {x : Int64} (hn : narrow (ty j) (.long x) = .long x) (hfit : fits (ty j) (.long x) = true) (h : VV dsc X (pc + 3) L st (sL σ k j x)) : VV dsc X pc L (.long x :: .ref (adX X k) :: st) σ :=
  v_putX E cf hk j hj hdecl hfin hl hd hf hn hfit (by show Value.long (gL (sL σ k j x) k j) = _; rw [gL_sL, if_pos ⟨rfl, rfl⟩]) (fun i g hi => fval_sL (Or.inr (by omega))) (fun i cd hi => cellE_sL hi cd) (fun z => WT_sL z k j x) h
theorem v_putR (E : EV dsc X cc own nL lv) (cf : CF ci C T N ty) (hk : dsc[k]? = some (.inr (ci, fs))) (j : Nat) (hj : j < N) (hdecl : (T j).1 = C) (hfin : (T j).2.2.2 = false) {ix : Nat} (hl : Cond.fieldLink own ix C (T j).2.1 (T j).2.2.1 ∈ TB) (hd : decode cc pc = .ok (.putfield ix, 3)) {o : Nat} (hf : fs[j]? = some (2, o)) {x : Nat} (hn : ∀ z, narrow (ty j) (.ref z) = .ref z) (hfit : ∀ z, fits (ty j) (.ref z) = true) (hx : dsc[x]? = some dVal) (h : VV dsc X (pc + 3) L st (sR σ k j x)) : VV dsc X pc L (.ref (adX X x) :: .ref (adX X k) :: st) σ :=
  v_putX E cf hk j hj hdecl hfin hl hd hf (hn _) (hfit _) (by show Value.ref (adX X (gR (sR σ k j x) k j)) = _; rw [gR_sR, if_pos ⟨rfl, rfl⟩]) (fun i g hi => fval_sR (Or.inr (by omega))) (fun i cd hi => cellE_sR hi cd) (fun z => WT_sR z k j (d := dVal) (rreq_R hk hf) hx) h
/-! arrays -/
theorem v_iald (E : EV dsc X cc own nL lv) {n : Nat} (hk : dsc[k]? = some (.inl (0, n))) (hn : n < 2147483648) {i : Int} (h0 : 0 ≤ i) (h1 : i < (n : Int)) (hd : decode cc pc = .ok (.iaload, 1)) (h : VV dsc X (pc + 1) L (.int (iI (gI σ k i)) :: st) σ) : VV dsc X pc L (.int (iI i) :: .ref (adX X k) :: st) σ := by
  intro H locs ls hP hS hL
  have hh := h H locs ls hP hS hL
  refine va_iald E.1 E.2.1 E.2.2.2.2.2.2.1 hP.1 k 0 (wl_get X.2.2.1 σ hk) rfl (iI_in h0 h1 hn) hd ?_
  show W _ _ _ _ _ _ _ _ _ _ _ _ _ _ _ (F0 _ _ _ (.int (iI (gI σ k ((iI i).toNatClampNeg : Nat))) :: st))
  rw [iI_clamp h0 (by omega), Int.toNat_of_nonneg h0]
  exact hh
theorem v_cald (E : EV dsc X cc own nL lv) {n : Nat} (hk : dsc[k]? = some (.inl (3, n))) (hn : n < 2147483648) {i : Int} (h0 : 0 ≤ i) (h1 : i < (n : Int)) (hd : decode cc pc = .ok (.caload, 1)) (h : VV dsc X (pc + 1) L (.int (iI (gI σ k i)) :: st) σ) : VV dsc X pc L (.int (iI i) :: .ref (adX X k) :: st) σ := by
  intro H locs ls hP hS hL
  have hh := h H locs ls hP hS hL
  refine va_cald E.1 E.2.1 E.2.2.2.2.2.2.1 hP.1 k 2 (wl_get X.2.2.1 σ hk) rfl (iI_in h0 h1 hn) hd ?_
  show W _ _ _ _ _ _ _ _ _ _ _ _ _ _ _ (F0 _ _ _ (.int (iI (gI σ k ((iI i).toNatClampNeg : Nat))) :: st))
  rw [iI_clamp h0 (by omega), Int.toNat_of_nonneg h0]
  exact hh
theorem v_lald (E : EV dsc X cc own nL lv) {n : Nat} (hk : dsc[k]? = some (.inl (1, n))) (hn : n < 2147483648) {i : Int} (h0 : 0 ≤ i) (h1 : i < (n : Int)) (hd : decode cc pc = .ok (.laload, 1)) (h : VV dsc X (pc + 1) L (.long (gL σ k i) :: st) σ) : VV dsc X pc L (.int (iI i) :: .ref (adX X k) :: st) σ := by
  intro H locs ls hP hS hL
  have hh := h H locs ls hP hS hL
  refine va_lald E.1 E.2.1 E.2.2.2.2.2.2.1 hP.1 k 1 (wl_get X.2.2.1 σ hk) rfl (iI_in h0 h1 hn) hd ?_
  show W _ _ _ _ _ _ _ _ _ _ _ _ _ _ _ (F0 _ _ _ (.long (gL σ k ((iI i).toNatClampNeg : Nat)) :: st))
  rw [iI_clamp h0 (by omega), Int.toNat_of_nonneg h0]
  exact hh
theorem v_aald (E : EV dsc X cc own nL lv) {n : Nat} (hk : dsc[k]? = some (.inl (2, n))) (hn : n < 2147483648) {i : Int} (h0 : 0 ≤ i) (h1 : i < (n : Int)) (hd : decode cc pc = .ok (.aaload, 1)) (h : dsc[gR σ k i]? = some dSt → VV dsc X (pc + 1) L (.ref (adX X (gR σ k i)) :: st) σ) : VV dsc X pc L (.int (iI i) :: .ref (adX X k) :: st) σ := by
  intro H locs ls hP hS hL
  have hh := h (hP.2.2 k i dSt (rreq_A hk)) H locs ls hP hS hL
  refine va_aldq E.1 E.2.1 E.2.2.2.2.2.2.1 hP.1 k 3 (wl_get X.2.2.1 σ hk) rfl (iI_in h0 h1 hn) hd ?_
  show W _ _ _ _ _ _ _ _ _ _ _ _ _ _ _ (F0 _ _ _ (.ref (adX X (gR σ k ((iI i).toNatClampNeg : Nat))) :: st))
  rw [iI_clamp h0 (by omega), Int.toNat_of_nonneg h0]
  exact hh
theorem upd_iI {σ : MS} {k : Nat} {i x : Int} (h0 : 0 ≤ i) (h1 : i < 2147483648) : upd (fun j : Nat => iI (gI σ k j)) (iI i).toNatClampNeg (iI x) = fun j : Nat => iI (gI (sI σ k i x) k j) := by
  funext j
  rw [iI_clamp h0 h1, gI_sI]
  unfold upd
  by_cases e : j = i.toNat
  · rw [if_pos e, if_pos ⟨rfl, by omega⟩]
  · rw [if_neg e, if_neg (fun q => e (by omega))]
theorem v_iast (E : EV dsc X cc own nL lv) {n : Nat} (hk : dsc[k]? = some (.inl (0, n))) (hn : n < 2147483648) {i x : Int} (h0 : 0 ≤ i) (h1 : i < (n : Int)) (hx : Rng x) (hd : decode cc pc = .ok (.iastore, 1)) (h : VV dsc X (pc + 1) L st (sI σ k i x)) : VV dsc X pc L (.int (iI x) :: .int (iI i) :: .ref (adX X k) :: st) σ := by
  intro H locs ls hP hS hL
  refine va_iast E.1 E.2.1 E.2.2.2.2.2.2.1 hP.1 (wl_D E.2.2.2.2.2.2.2.1 σ) hS k 0 (wl_get X.2.2.1 σ hk) rfl (iI_in h0 h1 hn) hd (fun H1 locs1 hP1 _ hS1 => ?_)
  refine h H1 locs1 ls ⟨?_, WT_sI hP.2 k i hx⟩ hS1 hL
  rw [upd_iI h0 (by omega)] at hP1
  rw [← wl_set (w := X.2.2.1) (σ := σ) (σ' := sI σ k i x) hk (fun a cd hi => cellE_sI hi cd)]
  exact hP1
theorem v_cast (E : EV dsc X cc own nL lv) {n : Nat} (hk : dsc[k]? = some (.inl (3, n))) (hn : n < 2147483648) {i x : Int} (h0 : 0 ≤ i) (h1 : i < (n : Int)) (hx : 0 ≤ x) (hx2 : x < 65536) (hd : decode cc pc = .ok (.castore, 1)) (h : VV dsc X (pc + 1) L st (sI σ k i x)) : VV dsc X pc L (.int (iI x) :: .int (iI i) :: .ref (adX X k) :: st) σ := by
  intro H locs ls hP hS hL
  refine va_cast E.1 E.2.1 E.2.2.2.2.2.2.1 hP.1 (wl_D E.2.2.2.2.2.2.2.1 σ) hS k 2 (wl_get X.2.2.1 σ hk) rfl (iI_in h0 h1 hn) hd (fun H1 locs1 hP1 _ hS1 => ?_)
  refine h H1 locs1 ls ⟨?_, WT_sI hP.2 k i ⟨by omega, by omega⟩⟩ hS1 hL
  rw [iI_nar hx hx2, upd_iI h0 (by omega)] at hP1
  rw [← wl_set (w := X.2.2.1) (σ := σ) (σ' := sI σ k i x) hk (fun a cd hi => cellE_sI hi cd)]
  exact hP1
theorem updL_gL {σ : MS} {k : Nat} {i : Int} {x : Int64} (h0 : 0 ≤ i) (h1 : i < 2147483648) : vp_updL (fun j : Nat => gL σ k j) (iI i).toNatClampNeg x = fun j : Nat => gL (sL σ k i x) k j := by
  funext j
  rw [iI_clamp h0 h1, gL_sL]
  unfold vp_updL
  by_cases e : j = i.toNat
  · rw [if_pos e, if_pos ⟨rfl, by omega⟩]
  · rw [if_neg e, if_neg (fun q => e (by omega))]
theorem v_last (E : EV dsc X cc own nL lv) {n : Nat} (hk : dsc[k]? = some (.inl (1, n))) (hn : n < 2147483648) {i : Int} {x : Int64} (h0 : 0 ≤ i) (h1 : i < (n : Int)) (hd : decode cc pc = .ok (.lastore, 1)) (h : VV dsc X (pc + 1) L st (sL σ k i x)) : VV dsc X pc L (.long x :: .int (iI i) :: .ref (adX X k) :: st) σ := by
  intro H locs ls hP hS hL
  refine va_last E.1 E.2.1 E.2.2.2.2.2.2.1 hP.1 (wl_D E.2.2.2.2.2.2.2.1 σ) hS k 1 (wl_get X.2.2.1 σ hk) rfl (iI_in h0 h1 hn) hd (fun H1 locs1 hP1 _ hS1 => ?_)
  refine h H1 locs1 ls ⟨?_, WT_sL hP.2 k i x⟩ hS1 hL
  rw [updL_gL h0 (by omega)] at hP1
  rw [← wl_set (w := X.2.2.1) (σ := σ) (σ' := sL σ k i x) hk (fun a cd hi => cellE_sL hi cd)]
  exact hP1
theorem va_up_gR {ad : Nat → Nat} {σ : MS} {k v : Nat} {i : Int} (h0 : 0 ≤ i) (h1 : i < 2147483648) : va_up (fun j : Nat => some (ad (gR σ k j))) (iI i).toNatClampNeg (some (ad v)) = fun j : Nat => some (ad (gR (sR σ k i v) k j)) := by
  funext j
  rw [iI_clamp h0 h1, gR_sR]
  unfold va_up
  by_cases e : j = i.toNat
  · rw [if_pos e, if_pos ⟨rfl, by omega⟩]
  · rw [if_neg e, if_neg (fun q => e (by omega))]
theorem v_aast (E : EV dsc X cc own nL lv) {n v : Nat} (hk : dsc[k]? = some (.inl (2, n))) (hn : n < 2147483648) (hv : dsc[v]? = some dSt) {i : Int} (h0 : 0 ≤ i) (h1 : i < (n : Int)) (hd : decode cc pc = .ok (.aastore, 1)) (h : VV dsc X (pc + 1) L st (sR σ k i v)) : VV dsc X pc L (.ref (adX X v) :: .int (iI i) :: .ref (adX X k) :: st) σ := by
  intro H locs ls hP hS hL
  refine va_astq E.1 E.2.1 E.2.2.2.2.2.2.1 hP.1 (wl_D E.2.2.2.2.2.2.2.1 σ) hS k 3 v 5 (wl_get X.2.2.1 σ hk) rfl (wl_get X.2.2.1 σ hv) rfl (iI_in h0 h1 hn) hd (fun H1 locs1 hP1 _ hS1 => ?_)
  refine h H1 locs1 ls ⟨?_, WT_sR hP.2 k i (rreq_A hk) hv⟩ hS1 hL
  rw [show X.2.2.1.2.1 v = adX X v from rfl] at hP1
  have e := va_up_gR (ad := adX X) (σ := σ) (k := k) (v := v) h0 (by omega)
  have e2 : (wl dsc X.2.2.1 σ).set k (X.2.2.1.2.1 k, cellE X.2.2.1 (sR σ k i v) k (.inl (2, n))) = wl dsc X.2.2.1 (sR σ k i v) := wl_set hk (fun a cd hi => cellE_sR hi cd)
  rw [← e2]
  show va_P _ _ ((wl dsc X.2.2.1 σ).set k (adX X k, .inl (X.2.2.1.2.2.2.2.2, n, .inr (.inr (.inr (.inr (fun j : Nat => some (adX X (gR (sR σ k i v) k j))))))))) H1
  rw [← e]
  exact hP1
theorem v_alen (E : EV dsc X cc own nL lv) {t n : Nat} (ht : t < 4) (hk : dsc[k]? = some (.inl (t, n))) (hd : decode cc pc = .ok (.arraylength, 1)) (h : VV dsc X (pc + 1) L (.int (iI (n : Int)) :: st) σ) : VV dsc X pc L (.ref (adX X k) :: st) σ := by
  intro H locs ls hP hS hL
  have hh := h H locs ls hP hS hL
  match t, ht with
  | 0, _ => exact va_alen E.1 E.2.1 E.2.2.2.2.2.2.1 hP.1 k 0 (wl_get X.2.2.1 σ hk) rfl (iI_nat n).symm hd hh
  | 1, _ => exact va_alen E.1 E.2.1 E.2.2.2.2.2.2.1 hP.1 k 1 (wl_get X.2.2.1 σ hk) rfl (iI_nat n).symm hd hh
  | 2, _ => exact va_alen E.1 E.2.1 E.2.2.2.2.2.2.1 hP.1 k 3 (wl_get X.2.2.1 σ hk) rfl (iI_nat n).symm hd hh
  | 3, _ => exact va_alen E.1 E.2.1 E.2.2.2.2.2.2.1 hP.1 k 2 (wl_get X.2.2.1 σ hk) rfl (iI_nat n).symm hd hh
/-! the static array -/
theorem v_getH (E : EV dsc X cc own nL lv) {ix : Nat} (hl : Cond.fieldLink own ix "BellSchool$Search" "HOLDING" "[J" ∈ TB) (hd : decode cc pc = .ok (.getstatic ix, 3)) (h : ∀ t : Nat, HT t (wA dsc X.2.2.1) X.1.2.2.2.2.1 X.1.2.2.2.2.1.heap → VV dsc X (pc + 3) L (.ref t :: st) σ) : VV dsc X pc L st σ := by
  obtain ⟨-, -, t, hZ, hT⟩ := E.2.2.2.2.2.2.2.2.1
  intro H locs ls hP hS hL
  exact va_gets E.1 E.2.1 hZ hS E.2.2.2.2.1 (E.2.2.2.2.2.1 _ hl) (fun _ x => x) hd (h t hT H locs ls hP hS hL)
theorem v_lenH (E : EV dsc X cc own nL lv) {t : Nat} (hT : HT t (wA dsc X.2.2.1) X.1.2.2.2.2.1 X.1.2.2.2.2.1.heap) (hd : decode cc pc = .ok (.arraylength, 1)) (h : VV dsc X (pc + 1) L (.int (iI 6) :: st) σ) : VV dsc X pc L (.ref t :: st) σ := by
  intro H locs ls hP hS hL
  exact va_tlen E.1 E.2.1 hT hS (iI_nat 6).symm hd (h H locs ls hP hS hL)
theorem v_laldH (E : EV dsc X cc own nL lv) {t : Nat} (hT : HT t (wA dsc X.2.2.1) X.1.2.2.2.2.1 X.1.2.2.2.2.1.heap) {i : Int} (h0 : 0 ≤ i) (h1 : i < 6) (hd : decode cc pc = .ok (.laload, 1)) (h : VV dsc X (pc + 1) L (.long (HOLD i) :: st) σ) : VV dsc X pc L (.int (iI i) :: .ref t :: st) σ := by
  intro H locs ls hP hS hL
  refine va_tl E.1 E.2.1 hT hS (iI_in (n := 6) h0 h1 (by decide)) (v := .long (HOLD i)) ?_ hd (h H locs ls hP hS hL)
  show Value.long (HOLD ((iI i).toNatClampNeg : Nat)) = _
  rw [iI_clamp h0 (by omega), Int.toNat_of_nonneg h0]
end RH
