/-! ===== a world that grows: constructors, the law ===== -/
def NW (U : State) : Prop :=
  (∀ p ∈ ([("BellSchool", 9, "BellSchool$Valley"), ("BellSchool", 21, "BellSchool$Text"), ("BellSchool", 28, "BellSchool$Reader"), ("BellSchool", 44, "BellSchool$Standing"), ("BellSchool", 66, "BellSchool$Search"), ("BellSchool", 73, "BellSchool$Measles"), ("BellSchool$Search", 27, "BellSchool$Standing"), ("BellSchool$Shelf", 25, "BellSchool$Standing")] : List (String × Nat × String)), va_Nw (.methodLinkNest p.1 p.2.1 ⟨p.2.2, "<init>", "()V"⟩ "BellSchool") U) ∧ va_AO "BellSchool$Standing" U
theorem NW.warm {s U : State} (h : NW s) (hW : s.WarmedH U.vm) : NW U := ⟨fun p hp => va_Nw.warmM hW (h.1 p hp), va_AO.moved hW.alike h.2⟩
theorem NW.same {s U : State} (h : NW s) (hv : s.vm = U.vm) : NW U := ⟨fun p hp => va_Nw.same rfl hv (h.1 p hp), va_AO.moved (by rw [hv]; exact Vm.Alike.refl U.vm) h.2⟩
def NV (A : Nat → Prop) (X : XC) (pc : Nat) (L : List (Nat × Value)) (st : List Value) (ws : va_W) (a b : Nat) : Prop :=
  ∀ (H : Heap) (locs : List Loc) (ls : Array Slot), va_P X.2.2.1.1 CLS ws H → va_D A ws → va_S A X.1.2.2.2.2.1.heap H locs → lv_has ls X.2.2.2.1 L →
    W X.1.1 X.1.2.1 X.1.2.2.1 X.1.2.2.2.1 X.1.2.2.2.2.1 X.1.2.2.2.2.2 X.2.1.1 X.2.1.2.1 X.2.1.2.2.1 X.2.1.2.2.2 H locs a b X.2.2.2.2.1 (F0 X.1.2.2.2.2.2 pc ls st)
def NE (X : XC) (cc : ByteArray) (own : String) (nL : Nat) (rm : Room) : Prop :=
  X.1.1.tables.exec = Jvm.exec ∧ X.2.1.2.2.2.code = cc ∧ X.2.1.2.2.2.maxLocals = nL ∧ X.2.2.2.1 = nL ∧ X.1.2.2.2.2.1.vm.findClass own = some X.1.2.2.2.2.2.cls ∧ (∀ w ∈ TB, w.before X.2.1.1 X.1.2.2.2.2.1 = true) ∧
  va_K X.2.2.1.1 CLS (dTys X.2.2.1) X.1.2.2.2.2.1 ∧ X.1.2.2.2.1 = rm ∧ X.2.1.2.2.1.locks = false
/-- what is new may be written -/
def NA (A : Nat → Prop) (X : XC) : Prop := ∀ q, X.1.2.2.2.2.1.heap.size ≤ q → A q
section GR
variable {A : Nat → Prop} {X : XC} {cc : ByteArray} {own : String} {nL pc a b : Nat} {rm : Room} {L L' : List (Nat × Value)} {st : List Value} {ws : va_W}
theorem n_aloadn (E : NE X cc own nL rm) {k : Fin 4} {i : Nat} {x : Nat} (hd : decode cc pc = .ok (.aload_n k, 1)) (hi : (k : Nat) = i) (q : Nat) (hl : L[q]? = some (i, .ref x)) (h : NV A X (pc + 1) L (.ref x :: st) ws a b) : NV A X pc L st ws a b :=
  fun H locs ls hP hD hS hL => lv_aload_n E.1 E.2.1 hd hi (lv_at hL q hl) (h H locs ls hP hD hS hL)
theorem n_iloadn (E : NE X cc own nL rm) {k : Fin 4} {i : Nat} {x : Int32} (hd : decode cc pc = .ok (.iload_n k, 1)) (hi : (k : Nat) = i) (q : Nat) (hl : L[q]? = some (i, .int x)) (h : NV A X (pc + 1) L (.int x :: st) ws a b) : NV A X pc L st ws a b :=
  fun H locs ls hP hD hS hL => lv_iload_n E.1 E.2.1 hd hi (lv_at hL q hl) (h H locs ls hP hD hS hL)
theorem n_istoren (E : NE X cc own nL rm) {k : Fin 4} {i : Nat} {x : Int32} (hd : decode cc pc = .ok (.istore_n k, 1)) (hi : (k : Nat) = i) (hn : i < nL) (hl : (i, Value.int x) :: L.filter (fun q => !(q.1 == i) && !(q.1 + 1 == i && q.2.category == 2)) = L') (h : NV A X (pc + 1) L' st ws a b) : NV A X pc L (.int x :: st) ws a b :=
  fun H locs ls hP hD hS hL => lv_istore_n E.1 E.2.1 hd hi hL (by rw [E.2.2.2.1]; exact hn) hl (fun ls' hL' => h H locs ls' hP hD hS hL')
theorem n_astoren (E : NE X cc own nL rm) {k : Fin 4} {i : Nat} {x : Nat} (hd : decode cc pc = .ok (.astore_n k, 1)) (hi : (k : Nat) = i) (hn : i < nL) (hl : (i, Value.ref x) :: L.filter (fun q => !(q.1 == i) && !(q.1 + 1 == i && q.2.category == 2)) = L') (h : NV A X (pc + 1) L' st ws a b) : NV A X pc L (.ref x :: st) ws a b :=
  fun H locs ls hP hD hS hL => lv_astore_n E.1 E.2.1 hd hi hL (by rw [E.2.2.2.1]; exact hn) hl (fun ls' hL' => h H locs ls' hP hD hS hL')
theorem n_iinc (E : NE X cc own nL rm) {i : Nat} {n : Int} {x y : Int32} (hd : decode cc pc = .ok (.iinc i n, 3)) (q : Nat) (hl : L[q]? = some (i, .int x)) (hn : i < nL) (hv : x + Int32.ofInt n = y) (hf : (i, Value.int y) :: L.filter (fun q => !(q.1 == i) && !(q.1 + 1 == i && q.2.category == 2)) = L') (h : NV A X (pc + 3) L' st ws a b) : NV A X pc L st ws a b :=
  fun H locs ls hP hD hS hL => lv_iinc E.1 E.2.1 hd hL hl hv (by rw [E.2.2.2.1]; exact hn) hf (fun ls' hL' => h H locs ls' hP hD hS hL')
theorem n_iconst (E : NE X cc own nL rm) {n : Int} {v : Int32} (hd : decode cc pc = .ok (.iconst n, 1)) (hv : Int32.ofInt n = v) (h : NV A X (pc + 1) L (.int v :: st) ws a b) : NV A X pc L st ws a b :=
  fun H locs ls hP hD hS hL => lv_iconst E.1 E.2.1 hd hv (h H locs ls hP hD hS hL)
theorem n_bipush (E : NE X cc own nL rm) {n : Int} {v : Int32} (hd : decode cc pc = .ok (.bipush n, 2)) (hv : (Int8.ofInt n).toInt32 = v) (h : NV A X (pc + 2) L (.int v :: st) ws a b) : NV A X pc L st ws a b :=
  fun H locs ls hP hD hS hL => lv_bipush E.1 E.2.1 hd hv (h H locs ls hP hD hS hL)
theorem n_sipush (E : NE X cc own nL rm) {n : Int} {v : Int32} (hd : decode cc pc = .ok (.sipush n, 3)) (hv : (Int16.ofInt n).toInt32 = v) (h : NV A X (pc + 3) L (.int v :: st) ws a b) : NV A X pc L st ws a b :=
  fun H locs ls hP hD hS hL => lv_sipush E.1 E.2.1 hd hv (h H locs ls hP hD hS hL)
theorem n_lconst (E : NE X cc own nL rm) {n : Fin 2} {v : Int64} (hd : decode cc pc = .ok (.lconst n, 1)) (hv : Int64.ofNat (n : Nat) = v) (h : NV A X (pc + 1) L (.long v :: st) ws a b) : NV A X pc L st ws a b :=
  fun H locs ls hP hD hS hL => lv_lconst E.1 E.2.1 hd hv (h H locs ls hP hD hS hL)
theorem n_dup (E : NE X cc own nL rm) {v : Value} (hd : decode cc pc = .ok (.dup, 1)) (hv : v.category = 1) (h : NV A X (pc + 1) L (v :: v :: st) ws a b) : NV A X pc L (v :: st) ws a b :=
  fun H locs ls hP hD hS hL => lv_dup E.1 E.2.1 hd hv (h H locs ls hP hD hS hL)
theorem n_pop (E : NE X cc own nL rm) {v : Value} (hd : decode cc pc = .ok (.pop, 1)) (hv : v.category = 1) (h : NV A X (pc + 1) L st ws a b) : NV A X pc L (v :: st) ws a b :=
  fun H locs ls hP hD hS hL => lv_pop E.1 E.2.1 hd hv (h H locs ls hP hD hS hL)
theorem n_goto (E : NE X cc own nL rm) {off : Int} (tgt : Nat) (hd : decode cc pc = .ok (.goto off, 3)) (ht : (pc : Int) + off = (tgt : Int)) (h : NV A X tgt L st ws a b) : NV A X pc L st ws a b :=
  fun H locs ls hP hD hS hL => lv_goto E.1 E.2.1 hd ht (h H locs ls hP hD hS hL)
theorem n_icmp_ge (E : NE X cc own nL rm) {x y : Int32} {off : Int} (tgt : Nat) (hd : decode cc pc = .ok (.if_icmp .ge off, 3)) (ht : (pc : Int) + off = (tgt : Int)) (h1 : y ≤ x → NV A X tgt L st ws a b) (h2 : ¬ y ≤ x → NV A X (pc + 3) L st ws a b) : NV A X pc L (.int y :: .int x :: st) ws a b :=
  fun H locs ls hP hD hS hL => lv_icmp_ge E.1 E.2.1 hd ht (fun c => h1 c H locs ls hP hD hS hL) (fun c => h2 c H locs ls hP hD hS hL)
theorem n_objInit (E : NE X cc own nL rm) {ix : Nat} (hl : Cond.methodLink own ix Lib.objectInit ∈ TB) (hi : Cond.instanceMethod Lib.objectInit ∈ TB) (hc : Cond.code Lib.objectInit ⟨#[0xb1]⟩ 1 none ∈ TB) (hd : decode cc pc = .ok (.invokespecial ix, 3)) {x : Nat} (hf : 1 ≤ rm.frames) (ho : (st.map fun v => v.category).sum + 12 ≤ rm.locals) (h : NV A X (pc + 3) L st ws a b) : NV A X pc L (.ref x :: st) ws a b := by
  intro H locs ls hP hD hS hL
  refine W.objInit E.1 E.2.1 E.2.2.2.2.1 (E.2.2.2.2.2.1 _ hl) (E.2.2.2.2.2.1 _ hi) (E.2.2.2.2.2.1 _ hc) rfl (by rw [E.2.2.1]; exact hL.1.trans E.2.2.2.1) rfl hd (by rw [E.2.2.2.2.2.2.2.1]; exact hf) (by rw [E.2.2.2.2.2.2.2.1]; show 2 * 0 + _ + 12 ≤ _; omega) ?_
  exact W.eq rfl (h H locs ls hP hD hS hL)
theorem n_world {ws' : va_W} (he : ws = ws') (h : NV A X pc L st ws' a b) : NV A X pc L st ws a b := he ▸ h
theorem n_part {ws' : va_W} (is : List Nat) (hs : is.map (fun i => ws[i]?) = ws'.map some) (hn : va_nd is = true) (h : NV A X pc L st ws' a b) : NV A X pc L st ws a b := by
  intro H locs ls hP hD hS hL
  refine h H locs ls ?_ (hD.sub is hn hs) hS hL
  intro k q hq
  have h1 : (is.map (fun i => ws[i]?))[k]? = some (some q) := by rw [hs, List.getElem?_map, hq]; rfl
  rw [List.getElem?_map] at h1
  cases hi : is[k]? with
  | none => rw [hi] at h1; cases h1
  | some i => rw [hi] at h1; exact hP i q (Option.some.inj h1)
theorem n_sub (ks : List Nat) (hl : lv_pick L ks = L') (h : NV A X pc L' st ws a b) : NV A X pc L st ws a b :=
  fun H locs ls hP hD hS hL => h H locs ls hP hD hS (lv_sub hL ks hl)
theorem n_wide {a' b' : Nat} (h1 : a ≤ a') (h2 : b ≤ b') (h : NV A X pc L st ws a' b') : NV A X pc L st ws a b :=
  fun H locs ls hP hD hS hL => W.widen h1 h2 (h H locs ls hP hD hS hL)
variable {ci N : Nat} {C : String} {T : u_T} {ty : Nat → FieldType}
theorem n_new (E : NE X cc own nL rm) (hA : NA A X) (cf : CF ci C T N ty) {ix : Nat} (hl : Cond.classLink own ix C ∈ TB) (hi : Cond.instantiable C N ∈ TB) (hn : Cond.initialized C ∈ TB) (fs : List Value) (hfs : ∀ j, j < N → defaultValue (ty j) = vp_V fs j) (hc : a + 1 ≤ rm.cells) (hs : b + N ≤ rm.slots) (hd : decode cc pc = .ok (.new ix, 3)) (h : ∀ q, NV A X (pc + 3) L (.ref q :: st) (ws ++ [(q, .inr (ci, fs))]) (a + 1) (b + N)) : NV A X pc L st ws a b := by
  intro H locs ls hP hD hS hL
  exact va_new E.1 E.2.1 E.2.2.2.2.2.1 cf.2.1 ty cf.2.2.1 E.2.2.2.2.1 (E.2.2.2.2.2.1 _ hl) (E.2.2.2.2.2.1 _ hi) (E.2.2.2.2.2.1 _ hn) E.2.2.2.2.2.2.1 hP hD hS hA cf.1 hfs (by rw [E.2.2.2.2.2.2.2.1]; exact hc) (by rw [E.2.2.2.2.2.2.2.1]; exact hs) hd (fun q H1 hP1 hD1 hS1 => h q H1 locs ls hP1 hD1 hS1 hL)
theorem find_inj {s : State} {n : String} {c d : ClassId} (h1 : s.vm.findClass n = some c) (h2 : s.vm.findClass n = some d) : c = d := Option.some.inj (h1.symm.trans h2)
theorem n_newI (E : NE X cc own nL rm) (hA : NA A X) (ha : Cond.arrayClass .int ∈ TB) {n : Int32} (M : Nat) (hn : ¬ n < 0) (hN : n.toNatClampNeg = M) (hb : M * 4 ≤ 536870912) (hc : a + 1 ≤ rm.cells) (hs : b + M ≤ rm.slots) (hd : decode cc pc = .ok (.newarray .int, 2)) (h : ∀ q, NV A X (pc + 2) L (.ref q :: st) (ws ++ [(q, .inl (X.2.2.1.2.2.1, M, .inl (fun _ => 0)))]) (a + 1) (b + M)) : NV A X pc L (.int n :: st) ws a b := by
  intro H locs ls hP hD hS hL
  refine va_newa (atype := .int) (ty := .int) (a0 := (M, .inl (fun _ => 0))) (N' := M) E.1 E.2.1 (E.2.2.2.2.2.1 _ ha) rfl E.2.2.2.2.2.2.1 hP hD hS hA (fun _ => rfl) hn hN hb (by rw [E.2.2.2.2.2.2.2.1]; exact hc) (by rw [E.2.2.2.2.2.2.2.1]; exact hs) hd (fun q cA H1 hK1 hP1 hD1 hS1 => ?_)
  have e : cA = X.2.2.1.2.2.1 := find_inj (hK1.2 4 (cA, .int) rfl).2 (E.2.2.2.2.2.2.1.2 0 _ rfl).2
  subst e
  exact h q H1 locs ls hP1 hD1 hS1 hL
theorem n_newL (E : NE X cc own nL rm) (hA : NA A X) (ha : Cond.arrayClass .long ∈ TB) {n : Int32} (M : Nat) (hn : ¬ n < 0) (hN : n.toNatClampNeg = M) (hb : M * 8 ≤ 536870912) (hc : a + 1 ≤ rm.cells) (hs : b + M ≤ rm.slots) (hd : decode cc pc = .ok (.newarray .long, 2)) (h : ∀ q, NV A X (pc + 2) L (.ref q :: st) (ws ++ [(q, .inl (X.2.2.1.2.2.2.1, M, .inr (.inl (fun _ => 0))))]) (a + 1) (b + M)) : NV A X pc L (.int n :: st) ws a b := by
  intro H locs ls hP hD hS hL
  refine va_newa (atype := .long) (ty := .long) (a0 := (M, .inr (.inl (fun _ => 0)))) (N' := M) E.1 E.2.1 (E.2.2.2.2.2.1 _ ha) rfl E.2.2.2.2.2.2.1 hP hD hS hA (fun _ => rfl) hn hN hb (by rw [E.2.2.2.2.2.2.2.1]; exact hc) (by rw [E.2.2.2.2.2.2.2.1]; exact hs) hd (fun q cA H1 hK1 hP1 hD1 hS1 => ?_)
  have e : cA = X.2.2.1.2.2.2.1 := find_inj (hK1.2 4 (cA, .long) rfl).2 (E.2.2.2.2.2.2.1.2 1 _ rfl).2
  subst e
  exact h q H1 locs ls hP1 hD1 hS1 hL
theorem n_newC (E : NE X cc own nL rm) (hA : NA A X) (ha : Cond.arrayClass .char ∈ TB) {n : Int32} (M : Nat) (hn : ¬ n < 0) (hN : n.toNatClampNeg = M) (hb : M * 2 ≤ 536870912) (hc : a + 1 ≤ rm.cells) (hs : b + M ≤ rm.slots) (hd : decode cc pc = .ok (.newarray .char, 2)) (h : ∀ q, NV A X (pc + 2) L (.ref q :: st) (ws ++ [(q, .inl (X.2.2.1.2.2.2.2.1, M, .inl (fun _ => 0)))]) (a + 1) (b + M)) : NV A X pc L (.int n :: st) ws a b := by
  intro H locs ls hP hD hS hL
  refine va_newa (atype := .char) (ty := .char) (a0 := (M, .inl (fun _ => 0))) (N' := M) E.1 E.2.1 (E.2.2.2.2.2.1 _ ha) rfl E.2.2.2.2.2.2.1 hP hD hS hA (fun _ => rfl) hn hN hb (by rw [E.2.2.2.2.2.2.2.1]; exact hc) (by rw [E.2.2.2.2.2.2.2.1]; exact hs) hd (fun q cA H1 hK1 hP1 hD1 hS1 => ?_)
  have e : cA = X.2.2.1.2.2.2.2.1 := find_inj (hK1.2 4 (cA, .char) rfl).2 (E.2.2.2.2.2.2.1.2 2 _ rfl).2
  subst e
  exact h q H1 locs ls hP1 hD1 hS1 hL
theorem n_newS (E : NE X cc own nL rm) (hA : NA A X) (hN : NW X.1.2.2.2.2.1) {ix : Nat} (hl : Cond.classLink own ix "BellSchool$Standing" ∈ TB) {n : Int32} (M : Nat) (hn : ¬ n < 0) (hM : n.toNatClampNeg = M) (hb : M * 4 ≤ 536870912) (hc : a + 1 ≤ rm.cells) (hs : b + M ≤ rm.slots) (hd : decode cc pc = .ok (.anewarray ix, 3)) (h : ∀ q, NV A X (pc + 3) L (.ref q :: st) (ws ++ [(q, .inl (X.2.2.1.2.2.2.2.2, M, .inr (.inr (.inr (.inr (fun _ => none))))))]) (a + 1) (b + M)) : NV A X pc L (.int n :: st) ws a b := by
  intro H locs ls hP hD hS hL
  refine va_newq (C := "BellSchool$Standing") (N' := M) E.1 E.2.1 E.2.2.2.2.1 (E.2.2.2.2.2.1 _ hl) hN.2 E.2.2.2.2.2.2.1 hP hD hS hA hn hM hb (by rw [E.2.2.2.2.2.2.2.1]; exact hc) (by rw [E.2.2.2.2.2.2.2.1]; exact hs) hd (fun q cA H1 hK1 hP1 hD1 hS1 => ?_)
  obtain ⟨_, _, _, _, _, f1⟩ := (hK1.2 4 (cA, .object "BellSchool$Standing") rfl).2
  obtain ⟨_, _, _, _, _, f2⟩ := (E.2.2.2.2.2.2.1.2 3 _ rfl).2
  have e : cA = X.2.2.1.2.2.2.2.2 := find_inj f1 f2
  subst e
  exact h q H1 locs ls hP1 hD1 hS1 hL
theorem n_put (E : NE X cc own nL rm) (cf : CF ci C T N ty) {x : Nat} (q0 : Nat) {fs : List Value} (he : ws[q0]? = some (x, .inr (ci, fs))) (j : Nat) (hj : j < N) (hdecl : (T j).1 = C) (hfin : (T j).2.2.2 = false ∨ (X.2.1.2.2.1.name = "<init>" ∧ C = own)) {ix : Nat} (hl : Cond.fieldLink own ix C (T j).2.1 (T j).2.2.1 ∈ TB) {v : Value} (hn : narrow (ty j) v = v) (hfit : fits (ty j) v = true) (hlen : j < fs.length) (hd : decode cc pc = .ok (.putfield ix, 3)) (ws' : va_W) (hw : ws.set q0 (x, .inr (ci, fs.set j v)) = ws') (h : NV A X (pc + 3) L st ws' a b) : NV A X pc L (v :: .ref x :: st) ws a b := by
  subst hw
  intro H locs ls hP hD hS hL
  rcases Bool.eq_false_or_eq_true (T j).2.2.2 with hf | hf
  · rcases hfin with z | ⟨z1, z2⟩
    · rw [hf] at z; cases z
    · exact va_putF E.1 E.2.1 E.2.2.2.2.2.1 cf.2.1 ty cf.2.2.1 cf.2.2.2 E.2.2.2.2.1 E.2.2.2.2.2.2.1 hP hD hS q0 he cf.1 j hj (E.2.2.2.2.2.1 _ hl) (fun x hx => by rw [hdecl] at hx; exact hx) hf z1 (hdecl.trans z2) (cf.2.2.1 j hj) hn hfit hlen hd (fun H1 locs1 hP1 hD1 hS1 => h H1 locs1 ls hP1 hD1 hS1 hL)
  · exact va_put E.1 E.2.1 E.2.2.2.2.2.1 cf.2.1 ty cf.2.2.1 cf.2.2.2 E.2.2.2.2.1 E.2.2.2.2.2.2.1 hP hD hS q0 he cf.1 j hj (E.2.2.2.2.2.1 _ hl) (fun x hx => by rw [hdecl] at hx; exact hx) hf (cf.2.2.1 j hj) hn hfit hlen hd (fun H1 locs1 hP1 hD1 hS1 => h H1 locs1 ls hP1 hD1 hS1 hL)
theorem n_get (E : NE X cc own nL rm) (cf : CF ci C T N ty) {x : Nat} (q0 : Nat) {fs : List Value} (he : ws[q0]? = some (x, .inr (ci, fs))) (j : Nat) (hj : j < N) (hdecl : (T j).1 = C) {ix : Nat} (hl : Cond.fieldLink own ix C (T j).2.1 (T j).2.2.1 ∈ TB) {v : Value} (hv : fs[j]? = some v) (hd : decode cc pc = .ok (.getfield ix, 3)) (h : NV A X (pc + 3) L (v :: st) ws a b) : NV A X pc L (.ref x :: st) ws a b :=
  fun H locs ls hP hD hS hL => va_get E.1 E.2.1 E.2.2.2.2.2.1 cf.2.1 E.2.2.2.2.1 E.2.2.2.2.2.2.1 hP q0 he cf.1 j hj (E.2.2.2.2.2.1 _ hl) (fun x hx => by rw [hdecl] at hx; exact hx) hv hd (h H locs ls hP hD hS hL)
theorem n_alenS (E : NE X cc own nL rm) {x : Nat} (q0 : Nat) {M : Nat} {f : Nat → Option Nat} (he : ws[q0]? = some (x, .inl (X.2.2.1.2.2.2.2.2, M, .inr (.inr (.inr (.inr f)))))) {v : Int32} (hv : Int32.ofNat M = v) (hd : decode cc pc = .ok (.arraylength, 1)) (h : NV A X (pc + 1) L (.int v :: st) ws a b) : NV A X pc L (.ref x :: st) ws a b :=
  fun H locs ls hP hD hS hL => va_alen E.1 E.2.1 E.2.2.2.2.2.2.1 hP q0 3 he rfl hv hd (h H locs ls hP hD hS hL)
theorem n_aastS (E : NE X cc own nL rm) {x v : Nat} (q0 qk : Nat) {M : Nat} {f : Nat → Option Nat} {vs : List Value} (he : ws[q0]? = some (x, .inl (X.2.2.1.2.2.2.2.2, M, .inr (.inr (.inr (.inr f)))))) (hv : ws[qk]? = some (v, .inr (5, vs))) {i : Int32} (hin : vp_in i M) (hd : decode cc pc = .ok (.aastore, 1)) (ws' : va_W) (hw : ws.set q0 (x, .inl (X.2.2.1.2.2.2.2.2, M, .inr (.inr (.inr (.inr (va_up f i.toNatClampNeg (some v))))))) = ws') (h : NV A X (pc + 1) L st ws' a b) : NV A X pc L (.ref v :: .int i :: .ref x :: st) ws a b := by
  subst hw
  intro H locs ls hP hD hS hL
  exact va_astq E.1 E.2.1 E.2.2.2.2.2.2.1 hP hD hS q0 3 qk 5 (r := ("BellSchool$Standing", TX5, 7)) he rfl hv rfl hin hd (fun H1 locs1 hP1 hD1 hS1 => h H1 locs1 ls hP1 hD1 hS1 hL)
/-- an array's cells past its end say nothing -/
theorem n_arrS {x : Nat} (q0 : Nat) {cA : ClassId} {M : Nat} {f g : Nat → Option Nat} (he : ws[q0]? = some (x, .inl (cA, M, .inr (.inr (.inr (.inr f)))))) (hfg : ∀ j, j < M → f j = g j) (ws' : va_W) (hw : ws.set q0 (x, .inl (cA, M, .inr (.inr (.inr (.inr g))))) = ws') (h : NV A X pc L st ws' a b) : NV A X pc L st ws a b := by
  subst hw
  intro H locs ls hP hD hS hL
  refine h H locs ls (hP.set hD he ?_ (fun _ _ => rfl)) (hD.set he) hS hL
  have h1 : H[x]? = some (vp_cell cA (M, .inr (.inr (.inr (.inr f))))) := hP q0 _ he
  show H[x]? = some (vp_cell cA (M, .inr (.inr (.inr (.inr g)))))
  rw [h1, vp_cell_q, vp_cell_q]
  unfold arrV
  congr 2
  apply Array.ext
  · simp
  · intro i i1 i2
    simp only [Array.getElem_ofFn]
    rw [hfg i (by simpa using i1)]
theorem n_mmax (E : NE X cc own nL rm) {x y : Int32} {ix : Nat} (h1 : Cond.methodLink own ix Lib.Math.max.name ∈ TB) (h2 : Cond.static Lib.Math.max.name ∈ TB) (h3 : Cond.initialized "java/lang/Math" ∈ TB) (h4 : Cond.code Lib.Math.max.name Lib.Math.max.code 2 (some .int) ∈ TB) (hd : decode cc pc = .ok (.invokestatic ix, 3)) (hcat : (st.map fun v => v.category).sum ≤ 8) (hf : 1 ≤ rm.frames) (hlo : 21 ≤ rm.locals) (hc : a ≤ rm.cells) (hs : b ≤ rm.slots) {v : Int32} (hv : (if x < y then y else x) = v) (h : NV A X (pc + 3) L (.int v :: st) ws a b) : NV A X pc L (.int y :: .int x :: st) ws a b := by
  subst hv
  intro H locs ls hP hD hS hL
  exact va_mmax E.1 E.2.1 (E.2.2.1.trans (hL.1.trans E.2.2.2.1).symm) E.2.2.2.2.1 (E.2.2.2.2.2.1 _ h1) (E.2.2.2.2.2.1 _ h2) (E.2.2.2.2.2.1 _ h3) (E.2.2.2.2.2.1 _ h4) (by rw [E.2.2.2.2.2.2.2.1]; exact hf) (by rw [E.2.2.2.2.2.2.2.1]; omega) (by rw [E.2.2.2.2.2.2.2.1]; exact hc) (by rw [E.2.2.2.2.2.2.2.1]; exact hs) hd (h H locs ls hP hD hS hL)
end GR
/-! ===== a constructor's contract ===== -/
/-- new cells come at addresses u; Ex: what is asked besides -/
def CTR (y : MethodName) (bytes : ByteArray) (maxL : Nat) (rm : Room) (As : List Value) (w0 : va_W) (Ex : (Nat → Prop) → State → Prop) (w1 : WDt → (Nat → Nat) → va_W → Prop) : Prop :=
  ∀ (l : Launch) (w : WDt) (sz : Nat), Met l y (.code y bytes maxL none :: TB) rm (va_Pc As (fun U => U.heap.size = sz ∧ va_P w.1 CLS w0 U.heap ∧ va_K w.1 CLS (dTys w) U ∧ va_D (fun _ => True) w0 ∧ Ex (va_A w0 sz) U))
    (va_Qv (S := (Nat → Nat) × va_W) (fun u => w1 w u.1 u.2) (fun u t => va_P w.1 CLS u.2 t.heap ∧ va_D (va_A w0 sz) u.2) (va_A w0 sz)) rm.cells rm.slots (va_A w0 sz)
def NR (A : Nat → Prop) (X : XC) (w1 : WDt → (Nat → Nat) → va_W → Prop) (rm : Room) : Prop :=
  X.2.2.2.2.1 = MQ X.2.1.2.1 (va_Qv (S := (Nat → Nat) × va_W) (fun u => w1 X.2.2.1 u.1 u.2) (fun u t => va_P X.2.2.1.1 CLS u.2 t.heap ∧ va_D A u.2) A) X.2.1.1 X.1.2.2.2.2.1 rm.cells rm.slots A ∧ X.2.1.2.2.1.sig.returnType = none
theorem ct_of {y : MethodName} {bytes : ByteArray} {maxL : Nat} {rm : Room} {As : List Value} {w0 : va_W} {Ex : (Nat → Prop) → State → Prop} {w1 : WDt → (Nat → Nat) → va_W → Prop} (hy : plainName y.cls = true) (hi : y.name = "<init>") (hlen : (lg_sl As).length ≤ maxL)
    (body : ∀ (A : Nat → Prop) (X : XC), NE X bytes y.cls maxL rm → NA A X → NR A X w1 rm → X.2.1.2.2.1.name = "<init>" → Ex A X.1.2.2.2.2.1 → NV A X 0 (lv_args 0 As) [] w0 0 0) : CTR y bytes maxL rm As w0 Ex w1 := by
  intro l w sz
  refine Met.ofW (cc := bytes) (maxL := maxL) (ret := none) hy rfl ?_
  intro p e s m args below meth c s₁ B hml hv
  obtain ⟨rfl, hsz, hP, hK, hD0, hEx⟩ := hv
  have hts := atoms_spec (ws := Cond.code y bytes maxL none :: TB) B.pre
  have hD := hD0.self (sz := sz)
  have hb := body (va_A w0 sz) ((p, l, e, rm, s, m), (As.toArray, below, meth, c), (w, maxL, MQ below (va_Qv (S := (Nat → Nat) × va_W) (fun u => w1 w u.1 u.2) (fun u t => va_P w.1 CLS u.2 t.heap ∧ va_D (va_A w0 sz) u.2) (va_A w0 sz)) As.toArray s rm.cells rm.slots (va_A w0 sz), 0, 0))
    ⟨B.exec, B.bytes, hml, rfl, findClass_of_methodNamed B.named, fun w hw => hts w (List.mem_cons_of_mem _ hw), hK, rfl, B.notSynchronized⟩ (fun q hq => Or.inr (by rw [← hsz]; exact hq)) ⟨rfl, B.returns⟩ ((name_of_methodNamed B.named B.method).1.trans hi) hEx
  rw [lg_entry_eq]
  exact hb s.heap [] _ hP hD va_S.rf (lv_entry _ hlen)
section GC
variable {A : Nat → Prop} {X : XC} {cc : ByteArray} {own : String} {nL pc a b : Nat} {rm : Room} {L : List (Nat × Value)} {st : List Value} {ws : va_W}
theorem n_vret (E : NE X cc own nL rm) {w1 : WDt → (Nat → Nat) → va_W → Prop} (hR : NR A X w1 rm) (u : Nat → Nat) (hq : w1 X.2.2.1 u ws) (ha : a = rm.cells) (hb : b = rm.slots) (hd : decode cc pc = .ok (.return_, 1)) : NV A X pc L [] ws a b := by
  subst ha hb
  intro H locs ls hP hD hS hL
  rw [hR.1]
  exact W.vret (hlocks := E.2.2.2.2.2.2.2.2) E.1 E.2.1 hR.2 (fun t ht hW => ⟨⟨(u, ws), rfl, hq, by show va_P _ _ _ t.heap; rw [ht]; exact hP, hD⟩, hS.F ht⟩) hS.2.2 hd
variable {y : MethodName} {bytes : ByteArray} {maxL n ix : Nat} {rmc : Room} {As : List Value} {x : Nat} {w0 wr : va_W} {Ex : (Nat → Prop) → State → Prop} {w1 : WDt → (Nat → Nat) → va_W → Prop} {stk : List Value}
/-- the words of a constructor -/
def MDi (y : MethodName) (bytes : ByteArray) (maxL n : Nat) : Prop :=
  Cond.code y bytes maxL none ∈ TB ∧ Cond.instanceMethod y ∈ TB ∧ Cond.initialized y.cls ∈ TB ∧ y.cls ≠ "java/lang/invoke/MethodHandle" ∧ y.cls ≠ "java/lang/invoke/VarHandle" ∧ (parseMethodDescriptor y.desc).map (fun d => d.parameters.length) = some n
theorem n_initX (E : NE X cc own nL rm) (hA : NA A X) (hM : CTR y bytes maxL rmc (.ref x :: As) w0 Ex w1)
    (hb : ∀ (A : Nat → Prop) (ar : Array Value) (U : State) (g : JFrame) (mk : MethodId), Ex A U → Ex A (U.calling g mk ar))
    (hx : ∀ (A' : Nat → Prop) (U : State), (∀ q, A' q → A q) → X.1.2.2.2.2.1.WarmedH U.vm → (∀ q : Nat, q < X.1.2.2.2.2.1.heap.size → ¬ A q → U.heap[q]? = X.1.2.2.2.2.1.heap[q]?) → Ex A' U)
    (isC isR : List Nat) (hC : isC.map (fun i => ws[i]?) = w0.map some) (hR : isR.map (fun i => ws[i]?) = wr.map some) (hnC : va_nd isC = true) (hnR : va_nd isR = true) (hdis : ∀ i ∈ isR, i ∉ isC)
    (run : ∀ (H : Heap) (locs : List Loc) (ls : Array Slot), va_P X.2.2.1.1 CLS ws H → va_D A ws → va_S A X.1.2.2.2.2.1.heap H locs → lv_has ls X.2.2.2.1 L → PreS X.1.2.2.2.2.1 H (va_Pc (.ref x :: As) (fun U => U.heap.size = H.size ∧ va_P X.2.2.1.1 CLS w0 U.heap ∧ va_K X.2.2.1.1 CLS (dTys X.2.2.1) U ∧ va_D (fun _ => True) w0 ∧ Ex (va_A w0 H.size) U)) (.ref x :: As) →
      va_Run X.1.1 X.1.2.1 X.1.2.2.1 X.1.2.2.2.1 X.1.2.2.2.2.1 X.1.2.2.2.2.2 X.2.1.1 X.2.1.2.1 X.2.1.2.2.1 X.2.1.2.2.2 H locs a b rmc.cells rmc.slots (F0 X.1.2.2.2.2.2 pc ls stk) st (va_Qv (S := (Nat → Nat) × va_W) (fun u => w1 X.2.2.1 u.1 u.2) (fun u t => va_P X.2.2.1.1 CLS u.2 t.heap ∧ va_D (va_A w0 H.size) u.2) (va_A w0 H.size) (.ref x :: As).toArray) (va_A w0 H.size))
    (h : ∀ u w', w1 X.2.2.1 u w' → NV A X (pc + 3) L st (wr ++ w') (a + rmc.cells) (b + rmc.slots)) : NV A X pc L stk ws a b := by
  intro H locs ls hP hD hS hL
  have hF := va_free hD hS hA isC hC
  have hPc : va_P X.2.2.1.1 CLS w0 H := by
    intro k q hq
    have h1 : (isC.map (fun i => ws[i]?))[k]? = some (some q) := by rw [hC, List.getElem?_map, hq]; rfl
    rw [List.getElem?_map] at h1
    cases hi : isC[k]? with
    | none => rw [hi] at h1; cases h1
    | some i => rw [hi] at h1; exact hP i q (Option.some.inj h1)
  have hDc := hD.sub isC hnC hC
  refine va_callv (run H locs ls hP hD hS hL ⟨fun ar U g mk q => ⟨q.1, q.2.1, q.2.2.1, va_K.moved (u := U) (U := U.calling g mk ar) (Vm.Alike.refl U.vm) q.2.2.2.1, q.2.2.2.2.1, hb _ ar U g mk q.2.2.2.2.2⟩, fun U hU hW => ⟨rfl, by rw [hU], by rw [hU]; exact hPc, va_K.moved hW.alike E.2.2.2.2.2.2.1, hDc.weaken (fun _ _ _ _ => trivial), hx _ U hF hW (fun q h1 h2 => by rw [hU]; exact hS.2.1 q h1 h2)⟩⟩) hS (fun q _ z => hF q z) hF (fun u t H1 locs1 ht hvm hp hB hz hk hS1 => ?_)
  rw [ht] at hB
  obtain ⟨hP1, hD1⟩ := va_join hP hD isC isR hC hR hnR hdis hk hF hB.1 hB.2
  exact h u.1 u.2 hp H1 locs1 ls hP1 hD1 hS1 hL
theorem n_init (E : NE X cc own nL rm) (hA : NA A X) (md : MDi y bytes maxL n) (hy : y.name = "<init>") (hM : CTR y bytes maxL rmc (.ref x :: As) w0 Ex w1)
    (hb : ∀ (A : Nat → Prop) (ar : Array Value) (U : State) (g : JFrame) (mk : MethodId), Ex A U → Ex A (U.calling g mk ar))
    (hx : ∀ (A' : Nat → Prop) (U : State), (∀ q, A' q → A q) → X.1.2.2.2.2.1.WarmedH U.vm → (∀ q : Nat, q < X.1.2.2.2.2.1.heap.size → ¬ A q → U.heap[q]? = X.1.2.2.2.2.1.heap[q]?) → Ex A' U)
    (hl : Cond.methodLink own ix y ∈ TB) (hd : decode cc pc = .ok (.invokespecial ix, 3)) (hn : As.length = n) (hlv : rmc.frames + 1 ≤ rm.frames ∧ 8 + (maxL + 11) + rmc.locals ≤ rm.locals) (hcat : (st.map fun v => v.category).sum ≤ 8) (hcs : a + rmc.cells ≤ rm.cells ∧ b + rmc.slots ≤ rm.slots)
    (isC isR : List Nat) (hC : isC.map (fun i => ws[i]?) = w0.map some) (hR : isR.map (fun i => ws[i]?) = wr.map some) (hnC : va_nd isC = true) (hnR : va_nd isR = true) (hdis : ∀ i ∈ isR, i ∉ isC) (hst : stk = As.reverse ++ .ref x :: st)
    (h : ∀ u w', w1 X.2.2.1 u w' → NV A X (pc + 3) L st (wr ++ w') (a + rmc.cells) (b + rmc.slots)) : NV A X pc L stk ws a b := by
  subst hst
  refine n_initX E hA hM hb hx isC isR hC hR hnC hnR hdis (fun H locs ls hP hD hS hL hpre => ?_) h
  exact va_runI (As := As) (rest := st) ⟨E.1, E.2.1, E.2.2.1, E.2.2.2.2.1, E.2.2.2.2.2.1⟩ (hM X.1.2.1 X.2.2.1 H.size) (cwI n E.2.2.2.2.2.1 (TB_good md.1) rfl rfl rfl (E.2.2.2.2.2.1 _ md.2.2.1) (E.2.2.2.2.2.1 _ hl) (E.2.2.2.2.2.1 _ md.2.1) hy md.2.2.2 ⟨by rw [E.2.2.2.2.2.2.2.1]; exact hlv.1, by rw [E.2.2.2.2.2.2.2.1]; exact hlv.2⟩) hpre rfl hn (hL.1.trans E.2.2.2.1) rfl (lv_room hcat) hd ⟨by rw [E.2.2.2.2.2.2.2.1]; exact hcs.1, by rw [E.2.2.2.2.2.2.2.1]; exact hcs.2⟩
theorem n_initN (E : NE X cc own nL rm) (hA : NA A X) (md : MDi y bytes maxL n) (hy : y.name = "<init>") (hM : CTR y bytes maxL rmc (.ref x :: As) w0 Ex w1)
    (hb : ∀ (A : Nat → Prop) (ar : Array Value) (U : State) (g : JFrame) (mk : MethodId), Ex A U → Ex A (U.calling g mk ar))
    (hx : ∀ (A' : Nat → Prop) (U : State), (∀ q, A' q → A q) → X.1.2.2.2.2.1.WarmedH U.vm → (∀ q : Nat, q < X.1.2.2.2.2.1.heap.size → ¬ A q → U.heap[q]? = X.1.2.2.2.2.1.heap[q]?) → Ex A' U)
    {host : String} (hl : va_Nw (.methodLinkNest own ix y host) X.1.2.2.2.2.1) (hd : decode cc pc = .ok (.invokespecial ix, 3)) (hn : As.length = n) (hlv : rmc.frames + 1 ≤ rm.frames ∧ 8 + (maxL + 11) + rmc.locals ≤ rm.locals) (hcat : (st.map fun v => v.category).sum ≤ 8) (hcs : a + rmc.cells ≤ rm.cells ∧ b + rmc.slots ≤ rm.slots)
    (isC isR : List Nat) (hC : isC.map (fun i => ws[i]?) = w0.map some) (hR : isR.map (fun i => ws[i]?) = wr.map some) (hnC : va_nd isC = true) (hnR : va_nd isR = true) (hdis : ∀ i ∈ isR, i ∉ isC) (hst : stk = As.reverse ++ .ref x :: st)
    (h : ∀ u w', w1 X.2.2.1 u w' → NV A X (pc + 3) L st (wr ++ w') (a + rmc.cells) (b + rmc.slots)) : NV A X pc L stk ws a b := by
  subst hst
  refine n_initX E hA hM hb hx isC isR hC hR hnC hnR hdis (fun H locs ls hP hD hS hL hpre => ?_) h
  exact va_runIN (As := As) (rest := st) ⟨E.1, E.2.1, E.2.2.1, E.2.2.2.2.1, E.2.2.2.2.2.1⟩ (hM X.1.2.1 X.2.2.1 H.size) ⟨va_cnB n E.2.2.2.2.2.1 (TB_good md.1) rfl rfl rfl hl (E.2.2.2.2.2.1 _ md.2.2.1) md.2.2.2 ⟨by rw [E.2.2.2.2.2.2.2.1]; exact hlv.1, by rw [E.2.2.2.2.2.2.2.1]; exact hlv.2⟩, hy, E.2.2.2.2.2.1 _ md.2.1⟩ hpre rfl hn (hL.1.trans E.2.2.2.1) rfl (lv_room hcat) hd ⟨by rw [E.2.2.2.2.2.2.2.1]; exact hcs.1, by rw [E.2.2.2.2.2.2.2.1]; exact hcs.2⟩
end GC
