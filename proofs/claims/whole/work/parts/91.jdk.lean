/-! ===== the JDK's own methods that the class's constructor reaches ===== -/
def fb : List Int32 := ftl.map iI
def NoA : Nat → Prop := fun _ => False
/-- the text's cell k, its bytes' cell v -/
def JK (k v : Nat) (A : Nat → Prop) (U : State) (H : Heap) : Prop :=
  va_O "java/lang/String" k A U H ∧ va_OF "java/lang/String" "coder" "B" (.int 0) k A U H ∧ va_OF "java/lang/String" "value" "[B" (.ref v) k A U H ∧ va_T .byte v 113 (fun j => .int (fb.getD j 0)) A U H ∧ va_Z "java/lang/String" "COMPACT_STRINGS" "Z" (.int 1) A U H ∧ va_Zq "jdk/internal/util/Preconditions" "SIOOBE_FORMATTER" "Ljava/util/function/BiFunction;" A U H
theorem JK.moved {k v : Nat} {A : Nat → Prop} {u U : State} {H : Heap} (hvm : u.vm.Alike U.vm) (h : JK k v A u H) : JK k v A U H :=
  ⟨va_O.moved hvm h.1, va_OF.moved hvm h.2.1, va_OF.moved hvm h.2.2.1, va_T.moved hvm h.2.2.2.1, va_Z.moved hvm h.2.2.2.2.1, va_Zq.moved hvm h.2.2.2.2.2⟩
theorem JK.kept {k v : Nat} {A : Nat → Prop} {U : State} {H H1 : Heap} (h : JK k v A U H) (hq : ∀ a : Nat, a < H.size → ¬ A a → H1[a]? = H[a]?) : JK k v A U H1 :=
  ⟨h.1.kept hq, h.2.1.kept hq, h.2.2.1.kept hq, h.2.2.2.1.kept hq, h.2.2.2.2.1.kept hq, h.2.2.2.2.2.kept hq⟩
theorem JK.narrow {k v : Nat} {A B : Nat → Prop} {U : State} {H : Heap} (h : JK k v A U H) (hAB : ∀ q, B q → A q) : JK k v B U H :=
  ⟨h.1.narrow hAB, h.2.1.narrow hAB, h.2.2.1.narrow hAB, h.2.2.2.1.narrow hAB, h.2.2.2.2.1.narrow hAB, h.2.2.2.2.2.narrow hAB⟩
theorem JK.to {k v : Nat} {A : Nat → Prop} {s U : State} (h : JK k v A s s.heap) (hW : s.WarmedH U.vm) (hq : ∀ a : Nat, a < s.heap.size → ¬ A a → U.heap[a]? = s.heap[a]?) : JK k v NoA U U.heap :=
  ((h.moved hW.alike).kept hq).narrow (fun _ z => z.elim)
def JP (k v : Nat) (w : WDt) (U : State) : Prop := JK k v NoA U U.heap ∧ va_K w.1 CLS (dTys w) U
theorem JP.call {k v : Nat} {w : WDt} {U : State} (h : JP k v w U) (ar : Array Value) (g : JFrame) (mk : MethodId) : JP k v w (U.calling g mk ar) :=
  ⟨JK.moved (u := U) (U := U.calling g mk ar) (Vm.Alike.refl U.vm) h.1, va_K.moved (u := U) (U := U.calling g mk ar) (Vm.Alike.refl U.vm) h.2⟩
def JQi (x : Int32) : Array Value → State → Outcome → State → Prop := va_Qi (S := Unit) (fun r _ => r = x) (fun _ _ => True) NoA
def JQv : Array Value → State → Outcome → State → Prop := va_Qv (S := Unit) (fun _ => True) (fun _ _ => True) NoA
/-- a method that reads the text -/
def JT (y : MethodName) (bytes : ByteArray) (maxL : Nat) (ret : Option FieldType) (lv : Nat) (k v : Nat) (As : List Value) (Qc : Array Value → State → Outcome → State → Prop) : Prop :=
  ∀ (l : Launch) (w : WDt), Met l y (.code y bytes maxL ret :: TB) (rmL lv) (va_Pc As (JP k v w)) Qc 0 0 NoA
def JR (X : XC) (Qc : Array Value → State → Outcome → State → Prop) (ret : Option FieldType) : Prop :=
  X.2.2.2.2.1 = MQ X.2.1.2.1 Qc X.2.1.1 X.1.2.2.2.2.1 0 0 NoA ∧ X.2.1.2.2.1.sig.returnType = ret
theorem jt_of {y : MethodName} {bytes : ByteArray} {maxL lv k v : Nat} {ret : Option FieldType} {As : List Value} {Qc : Array Value → State → Outcome → State → Prop} (hy : plainName y.cls = true) (hlen : (lg_sl As).length ≤ maxL)
    (body : ∀ X : XC, NE X bytes y.cls maxL (rmL lv) → JR X Qc ret → JK k v NoA X.1.2.2.2.2.1 X.1.2.2.2.2.1.heap → NV NoA X 0 (lv_args 0 As) [] [] 0 0) : JT y bytes maxL ret lv k v As Qc := by
  intro l w
  refine Met.ofW (cc := bytes) (maxL := maxL) (ret := ret) hy rfl ?_
  intro p e s m args below meth c s₁ B hml hv
  obtain ⟨rfl, hJ, hK⟩ := hv
  have hts := atoms_spec (ws := Cond.code y bytes maxL ret :: TB) B.pre
  have hb := body ((p, l, e, rmL lv, s, m), (As.toArray, below, meth, c), (w, maxL, MQ below Qc As.toArray s 0 0 NoA, 0, 0))
    ⟨B.exec, B.bytes, hml, rfl, findClass_of_methodNamed B.named, fun w hw => hts w (List.mem_cons_of_mem _ hw), hK, rfl, B.notSynchronized⟩ ⟨rfl, B.returns⟩ hJ
  rw [lg_entry_eq]
  exact hb s.heap [] _ (fun k q h => by simp at h) ⟨fun i j p q h => by simp at h, fun k q h => by simp at h⟩ va_S.rf (lv_entry _ hlen)
section GJ
variable {A : Nat → Prop} {X : XC} {cc : ByteArray} {own : String} {nL pc a b : Nat} {rm : Room} {L : List (Nat × Value)} {st stk : List Value} {ws : va_W}
variable {y : MethodName} {bytes : ByteArray} {maxL n lvc ix k v : Nat} {ret : Option FieldType} {As : List Value}
theorem j_iret (E : NE X cc own nL rm) {x : Int32} {ty : FieldType} (hR : JR X (JQi x) (some ty)) (hn : narrow ty (.int x) = .int x) (hd : decode cc pc = .ok (.ireturn, 1)) : NV NoA X pc L [.int x] [] 0 0 := by
  intro H locs ls hP hD hS hL
  rw [hR.1]
  exact W.zret (hlocks := E.2.2.2.2.2.2.2.2) E.1 E.2.1 hR.2 hn (fun t ht hW => ⟨⟨x, (), rfl, rfl, trivial⟩, hS.F ht⟩) hS.2.2 hd
theorem j_vret (E : NE X cc own nL rm) (hR : JR X JQv none) (hd : decode cc pc = .ok (.return_, 1)) : NV NoA X pc L [] [] 0 0 := by
  intro H locs ls hP hD hS hL
  rw [hR.1]
  exact W.vret (hlocks := E.2.2.2.2.2.2.2.2) E.1 E.2.1 hR.2 (fun t ht hW => ⟨⟨(), rfl, trivial, trivial⟩, hS.F ht⟩) hS.2.2 hd
theorem n_gets (E : NE X cc own nL rm) {C n d : String} {x : Value} (hZ : va_Z C n d x A X.1.2.2.2.2.1 X.1.2.2.2.2.1.heap) {ix : Nat} (hl : Cond.fieldLink own ix C n d ∈ TB) (hd : decode cc pc = .ok (.getstatic ix, 3)) (h : NV A X (pc + 3) L (x :: st) ws a b) : NV A X pc L st ws a b :=
  fun H locs ls hP hD hS hL => va_gets E.1 E.2.1 hZ hS E.2.2.2.2.1 (E.2.2.2.2.2.1 _ hl) (fun _ x => x) hd (h H locs ls hP hD hS hL)
theorem n_getk (E : NE X cc own nL rm) {C n d : String} {x : Value} {q : Nat} (hZ : va_OF C n d x q A X.1.2.2.2.2.1 X.1.2.2.2.2.1.heap) {ix : Nat} (hl : Cond.fieldLink own ix C n d ∈ TB) (hd : decode cc pc = .ok (.getfield ix, 3)) (h : NV A X (pc + 3) L (x :: st) ws a b) : NV A X pc L (.ref q :: st) ws a b :=
  fun H locs ls hP hD hS hL => vk_getf E.1 E.2.1 hZ hS E.2.2.2.2.1 (E.2.2.2.2.2.1 _ hl) (fun _ x => x) hd (h H locs ls hP hD hS hL)
theorem n_tlen (E : NE X cc own nL rm) {ty : FieldType} {t N : Nat} {f : Nat → Value} (hT : va_T ty t N f A X.1.2.2.2.2.1 X.1.2.2.2.2.1.heap) {x : Int32} (hv : Int32.ofNat N = x) (hd : decode cc pc = .ok (.arraylength, 1)) (h : NV A X (pc + 1) L (.int x :: st) ws a b) : NV A X pc L (.ref t :: st) ws a b :=
  fun H locs ls hP hD hS hL => va_tlen E.1 E.2.1 hT hS hv hd (h H locs ls hP hD hS hL)
theorem n_tb (E : NE X cc own nL rm) {t N : Nat} {f : Nat → Value} (hT : va_T .byte t N f A X.1.2.2.2.2.1 X.1.2.2.2.2.1.heap) {i : Int32} (hin : vp_in i N) {x : Value} (hv : f i.toNatClampNeg = x) (hd : decode cc pc = .ok (.baload, 1)) (h : NV A X (pc + 1) L (x :: st) ws a b) : NV A X pc L (.int i :: .ref t :: st) ws a b :=
  fun H locs ls hP hD hS hL => va_tb E.1 E.2.1 hT hS hin hv hd (h H locs ls hP hD hS hL)
theorem n_if_eq (E : NE X cc own nL rm) {x : Int32} {off : Int} (tgt : Nat) (hd : decode cc pc = .ok (.ifCond .eq off, 3)) (ht : (pc : Int) + off = (tgt : Int)) (h1 : x = 0 → NV A X tgt L st ws a b) (h2 : ¬ x = 0 → NV A X (pc + 3) L st ws a b) : NV A X pc L (.int x :: st) ws a b :=
  fun H locs ls hP hD hS hL => lv_if_eq E.1 E.2.1 hd ht (fun c => h1 c H locs ls hP hD hS hL) (fun c => h2 c H locs ls hP hD hS hL)
theorem n_if_ne (E : NE X cc own nL rm) {x : Int32} {off : Int} (tgt : Nat) (hd : decode cc pc = .ok (.ifCond .ne off, 3)) (ht : (pc : Int) + off = (tgt : Int)) (h1 : ¬ x = 0 → NV A X tgt L st ws a b) (h2 : x = 0 → NV A X (pc + 3) L st ws a b) : NV A X pc L (.int x :: st) ws a b :=
  fun H locs ls hP hD hS hL => lv_if_ne E.1 E.2.1 hd ht (fun c => h1 c H locs ls hP hD hS hL) (fun c => h2 c H locs ls hP hD hS hL)
theorem n_if_lt (E : NE X cc own nL rm) {x : Int32} {off : Int} (tgt : Nat) (hd : decode cc pc = .ok (.ifCond .lt off, 3)) (ht : (pc : Int) + off = (tgt : Int)) (h1 : x < 0 → NV A X tgt L st ws a b) (h2 : ¬ x < 0 → NV A X (pc + 3) L st ws a b) : NV A X pc L (.int x :: st) ws a b :=
  fun H locs ls hP hD hS hL => lv_if_lt E.1 E.2.1 hd ht (fun c => h1 c H locs ls hP hD hS hL) (fun c => h2 c H locs ls hP hD hS hL)
theorem n_icmp_lt (E : NE X cc own nL rm) {x y : Int32} {off : Int} (tgt : Nat) (hd : decode cc pc = .ok (.if_icmp .lt off, 3)) (ht : (pc : Int) + off = (tgt : Int)) (h1 : x < y → NV A X tgt L st ws a b) (h2 : ¬ x < y → NV A X (pc + 3) L st ws a b) : NV A X pc L (.int y :: .int x :: st) ws a b :=
  fun H locs ls hP hD hS hL => lv_icmp_lt E.1 E.2.1 hd ht (fun c => h1 c H locs ls hP hD hS hL) (fun c => h2 c H locs ls hP hD hS hL)
theorem n_iand (E : NE X cc own nL rm) {x y z : Int32} (hd : decode cc pc = .ok (.iand, 1)) (hz : x &&& y = z) (h : NV A X (pc + 1) L (.int z :: st) ws a b) : NV A X pc L (.int y :: .int x :: st) ws a b := by
  subst hz
  exact fun H locs ls hP hD hS hL => lv_iand E.1 E.2.1 hd (h H locs ls hP hD hS hL)
theorem n_ishr (E : NE X cc own nL rm) {x y z : Int32} (hd : decode cc pc = .ok (.ishr, 1)) (hz : x >>> (y &&& 31) = z) (h : NV A X (pc + 1) L (.int z :: st) ws a b) : NV A X pc L (.int y :: .int x :: st) ws a b := by
  subst hz
  exact fun H locs ls hP hD hS hL => lv_ishr E.1 E.2.1 hd (h H locs ls hP hD hS hL)
theorem n_i2c (E : NE X cc own nL rm) {x z : Int32} (hd : decode cc pc = .ok (.i2c, 1)) (hz : (x.toUInt32 % 65536).toInt32 = z) (h : NV A X (pc + 1) L (.int z :: st) ws a b) : NV A X pc L (.int x :: st) ws a b :=
  fun H locs ls hP hD hS hL => lv_i2c E.1 E.2.1 hd hz (h H locs ls hP hD hS hL)
theorem n_ldcS (E : NE X cc own nL rm) {tx : String} {ix q : Nat} (hZ : vk_R own ix tx q X.1.2.2.2.2.1) (hd : decode cc pc = .ok (.ldc ix, 2)) (h : NV A X (pc + 2) L (.ref q :: st) ws a b) : NV A X pc L st ws a b :=
  fun H locs ls hP hD hS hL => va_ldcS E.1 E.2.1 E.2.2.2.2.1 hZ hd (h H locs ls hP hD hS hL)
theorem j_pre (E : NE X cc own nL rm) (hJ : JK k v A X.1.2.2.2.2.1 X.1.2.2.2.2.1.heap) {H : Heap} {locs : List Loc} (hS : va_S A X.1.2.2.2.2.1.heap H locs) (U : State) (hU : U.heap = H) (hW : X.1.2.2.2.2.1.WarmedH U.vm) : JP k v X.2.2.1 U :=
  ⟨hJ.to hW (fun q h1 h2 => by rw [hU]; exact hS.2.1 q h1 h2), va_K.moved hW.alike E.2.2.2.2.2.2.1⟩
theorem j_keep {H H1 : Heap} {D : va_G} (hP : va_P D CLS ws H) (hk : ∀ q : Nat, q < H.size → ¬ NoA q → H1[q]? = H[q]?) : va_P D CLS ws H1 :=
  hP.kept (fun k q hq => hk q.1 (hP k q hq).lt (fun z => z))
theorem n_jS (E : NE X cc own nL rm) (hJ : JK k v A X.1.2.2.2.2.1 X.1.2.2.2.2.1.heap) (md : MDs y bytes maxL ret n) {x : Int32} (hM : JT y bytes maxL ret lvc k v As (JQi x)) (hlv : lvc + 1 ≤ rm.frames ∧ 8 + (maxL + 11) + 40 * lvc ≤ rm.locals) (hl : Cond.methodLink own ix y ∈ TB) (hd : decode cc pc = .ok (.invokestatic ix, 3)) (hn : As.length = n) (hst : stk = As.reverse ++ st) (hcat : (st.map fun v => v.category).sum ≤ 8) (hcs : a ≤ rm.cells ∧ b ≤ rm.slots) (h : NV A X (pc + 3) L (.int x :: st) ws a b) : NV A X pc L stk ws a b := by
  subst hst
  intro H locs ls hP hD hS hL
  refine va_calli (va_runS (As := As) (rest := st) ⟨E.1, E.2.1, E.2.2.1, E.2.2.2.2.1, E.2.2.2.2.2.1⟩ (hM X.1.2.1 X.2.2.1) (va_cwS n E.2.2.2.2.2.1 (TB_goodS md hl) rfl rfl rfl md.2.2.2 ⟨by rw [E.2.2.2.2.2.2.2.1]; exact hlv.1, by rw [E.2.2.2.2.2.2.2.1]; exact hlv.2⟩) ⟨fun ar U g mk q => ⟨q.1, q.2.call ar g mk⟩, fun U hU hW => ⟨rfl, j_pre E hJ hS U hU hW⟩⟩ rfl hn (hL.1.trans E.2.2.2.1) rfl (lv_room hcat) hd ⟨by rw [E.2.2.2.2.2.2.2.1]; exact hcs.1, by rw [E.2.2.2.2.2.2.2.1]; exact hcs.2⟩) hS (fun q _ z => z.elim) (fun q z => z.elim) (fun r u t H1 locs1 ht hvm hp hB hz hk hS1 => ?_)
  obtain rfl : r = x := hp
  exact h H1 locs1 ls (j_keep hP hk) hD hS1 hL
theorem n_jSv (E : NE X cc own nL rm) (hJ : JK k v A X.1.2.2.2.2.1 X.1.2.2.2.2.1.heap) (md : MDs y bytes maxL ret n) (hM : JT y bytes maxL ret lvc k v As JQv) (hlv : lvc + 1 ≤ rm.frames ∧ 8 + (maxL + 11) + 40 * lvc ≤ rm.locals) (hl : Cond.methodLink own ix y ∈ TB) (hd : decode cc pc = .ok (.invokestatic ix, 3)) (hn : As.length = n) (hst : stk = As.reverse ++ st) (hcat : (st.map fun v => v.category).sum ≤ 8) (hcs : a ≤ rm.cells ∧ b ≤ rm.slots) (h : NV A X (pc + 3) L st ws a b) : NV A X pc L stk ws a b := by
  subst hst
  intro H locs ls hP hD hS hL
  refine va_callv (va_runS (As := As) (rest := st) ⟨E.1, E.2.1, E.2.2.1, E.2.2.2.2.1, E.2.2.2.2.2.1⟩ (hM X.1.2.1 X.2.2.1) (va_cwS n E.2.2.2.2.2.1 (TB_goodS md hl) rfl rfl rfl md.2.2.2 ⟨by rw [E.2.2.2.2.2.2.2.1]; exact hlv.1, by rw [E.2.2.2.2.2.2.2.1]; exact hlv.2⟩) ⟨fun ar U g mk q => ⟨q.1, q.2.call ar g mk⟩, fun U hU hW => ⟨rfl, j_pre E hJ hS U hU hW⟩⟩ rfl hn (hL.1.trans E.2.2.2.1) rfl (lv_room hcat) hd ⟨by rw [E.2.2.2.2.2.2.2.1]; exact hcs.1, by rw [E.2.2.2.2.2.2.2.1]; exact hcs.2⟩) hS (fun q _ z => z.elim) (fun q z => z.elim) (fun u t H1 locs1 ht hvm hp hB hz hk hS1 => ?_)
  exact h H1 locs1 ls (j_keep hP hk) hD hS1 hL
theorem n_jV (E : NE X cc own nL rm) (hJ : JK k v A X.1.2.2.2.2.1 X.1.2.2.2.2.1.heap) (hc : y.cls = "java/lang/String") (md : MDv y bytes maxL ret n) {x : Int32} (hM : JT y bytes maxL ret lvc k v (.ref k :: As) (JQi x)) (hlv : lvc + 1 ≤ rm.frames ∧ 8 + (maxL + 11) + 40 * lvc ≤ rm.locals) (hl : Cond.methodLink own ix y ∈ TB) (hd : decode cc pc = .ok (.invokevirtual ix, 3)) (hn : As.length = n) (hst : stk = As.reverse ++ .ref k :: st) (hcat : (st.map fun v => v.category).sum ≤ 8) (hcs : a ≤ rm.cells ∧ b ≤ rm.slots) (h : NV A X (pc + 3) L (.int x :: st) ws a b) : NV A X pc L stk ws a b := by
  subst hst
  intro H locs ls hP hD hS hL
  refine va_calli (va_runV (As := As) (rest := st) ⟨E.1, E.2.1, E.2.2.1, E.2.2.2.2.1, E.2.2.2.2.2.1⟩ (hM X.1.2.1 X.2.2.1) (cwV n E.2.2.2.2.2.1 (TB_goodV md hl) rfl rfl rfl ⟨rfl, md.2.2.2.2⟩ ⟨by rw [E.2.2.2.2.2.2.2.1]; exact hlv.1, by rw [E.2.2.2.2.2.2.2.1]; exact hlv.2⟩) ⟨fun ar U g mk q => ⟨q.1, q.2.call ar g mk⟩, ?_, fun U hU hW => ⟨rfl, j_pre E hJ hS U hU hW⟩⟩ rfl hn (hL.1.trans E.2.2.2.1) rfl (lv_room hcat) hd ⟨by rw [E.2.2.2.2.2.2.2.1]; exact hcs.1, by rw [E.2.2.2.2.2.2.2.1]; exact hcs.2⟩) hS (fun q _ z => z.elim) (fun q z => z.elim) (fun r u t H1 locs1 ht hvm hp hB hz hk hS1 => ?_)
  · obtain ⟨cell, h1, h2, h3, -⟩ := hJ.1.kept hS.2.1
    exact ⟨cell, h1, h2, by rw [hc]; exact h3⟩
  · obtain rfl : r = x := hp
    exact h H1 locs1 ls (j_keep hP hk) hD hS1 hL
end GJ
theorem c_cod (k v : Nat) : JT yj_cod prog_15_method_152_code 1 (some .byte) 0 k v [.ref k] (JQi 0) := by
  refine jt_of (by decide) (Nat.le_of_ble_eq_true rfl) (fun X E hR hJ => ?_)
  replace E : NE X prog_15_method_152_code "java/lang/String" 1 (rmL 0) := E
  show NV NoA X 0 [(0, .ref k)] [] [] 0 0
  refine n_gets E hJ.2.2.2.2.1 jf_cod_0 dj_cod_0 ?_
  refine n_if_eq E 13 dj_cod_3 (by decide) (fun c => absurd c (by decide)) (fun _ => ?_)
  refine n_aloadn E dj_cod_6 rfl 0 rfl ?_
  refine n_getk E hJ.2.1 jf_cod_7 dj_cod_7 ?_
  refine n_goto E 14 dj_cod_10 (by decide) ?_
  exact j_iret E hR rfl dj_cod_14
theorem c_len (k v : Nat) : JT yj_len prog_15_method_54_code 1 (some .int) 1 k v [.ref k] (JQi 113) := by
  refine jt_of (by decide) (Nat.le_of_ble_eq_true rfl) (fun X E hR hJ => ?_)
  replace E : NE X prog_15_method_54_code "java/lang/String" 1 (rmL 1) := E
  show NV NoA X 0 [(0, .ref k)] [] [] 0 0
  refine n_aloadn E dj_len_0 rfl 0 rfl ?_
  refine n_getk E hJ.2.2.1 jf_len_1 dj_len_1 ?_
  refine n_tlen (x := 113) E hJ.2.2.2.1 (by decide) dj_len_4 ?_
  refine n_aloadn E dj_len_5 rfl 0 rfl ?_
  refine n_jV (As := []) E hJ rfl jd_cod (c_cod k v) ⟨Nat.le_of_ble_eq_true rfl, Nat.le_of_ble_eq_true rfl⟩ jl_len_cod dj_len_6 rfl rfl (Nat.le_of_ble_eq_true rfl) ⟨Nat.le_of_ble_eq_true rfl, Nat.le_of_ble_eq_true rfl⟩ ?_
  refine n_ishr (z := 113) E dj_len_9 (by decide) ?_
  exact j_iret E hR rfl dj_len_10
theorem c_isl (k v : Nat) : JT yj_isl prog_15_method_154_code 1 (some .boolean) 0 k v [.ref k] (JQi 1) := by
  refine jt_of (by decide) (Nat.le_of_ble_eq_true rfl) (fun X E hR hJ => ?_)
  replace E : NE X prog_15_method_154_code "java/lang/String" 1 (rmL 0) := E
  show NV NoA X 0 [(0, .ref k)] [] [] 0 0
  refine n_gets E hJ.2.2.2.2.1 jf_isl_0 dj_isl_0 ?_
  refine n_if_eq E 17 dj_isl_3 (by decide) (fun c => absurd c (by decide)) (fun _ => ?_)
  refine n_aloadn E dj_isl_6 rfl 0 rfl ?_
  refine n_getk E hJ.2.1 jf_isl_7 dj_isl_7 ?_
  refine n_if_ne E 17 dj_isl_10 (by decide) (fun c => absurd rfl c) (fun _ => ?_)
  refine n_iconst (v := 1) E dj_isl_13 (by decide) ?_
  refine n_goto E 18 dj_isl_14 (by decide) ?_
  exact j_iret E hR rfl dj_isl_18
theorem c_pch (k v : Nat) {i n : Int32} (h0 : ¬ i < 0) (h1 : i < n) (f : Value) (hf : f = .null ∨ ∃ q, f = .ref q) : JT yj_pch prog_18_method_11_code 3 (some .int) 0 k v [.int i, .int n, f] (JQi i) := by
  have hlen : (lg_sl [.int i, .int n, f]).length ≤ 3 := by rcases hf with rfl | ⟨q, rfl⟩ <;> exact Nat.le_of_ble_eq_true rfl
  refine jt_of (by decide) hlen (fun X E hR hJ => ?_)
  replace E : NE X prog_18_method_11_code "jdk/internal/util/Preconditions" 3 (rmL 0) := E
  have e : lv_args 0 [.int i, .int n, f] = [(0, .int i), (1, .int n), (2, f)] := by rcases hf with rfl | ⟨q, rfl⟩ <;> rfl
  rw [e]
  refine n_iloadn E dj_pch_0 rfl 0 rfl ?_
  refine n_if_lt E 9 dj_pch_1 (by decide) (fun c => absurd c h0) (fun _ => ?_)
  refine n_iloadn E dj_pch_4 rfl 0 rfl ?_
  refine n_iloadn E dj_pch_5 rfl 1 rfl ?_
  refine n_icmp_lt E 16 dj_pch_6 (by decide) (fun _ => ?_) (fun c => absurd h1 c)
  refine n_iloadn E dj_pch_16 rfl 0 rfl ?_
  exact j_iret E hR rfl dj_pch_17
theorem c_chk (k v : Nat) {i n : Int32} (h0 : ¬ i < 0) (h1 : i < n) : JT yj_chk prog_15_method_155_code 2 none 1 k v [.int i, .int n] JQv := by
  refine jt_of (by decide) (Nat.le_of_ble_eq_true rfl) (fun X E hR hJ => ?_)
  replace E : NE X prog_15_method_155_code "java/lang/String" 2 (rmL 1) := E
  show NV NoA X 0 [(0, .int i), (1, .int n)] [] [] 0 0
  refine n_iloadn E dj_chk_0 rfl 0 rfl ?_
  refine n_iloadn E dj_chk_1 rfl 1 rfl ?_
  have go : ∀ f : Value, (f = .null ∨ ∃ q, f = .ref q) → NV NoA X 5 [(0, .int i), (1, .int n)] [f, .int n, .int i] [] 0 0 := by
    intro f hf
    refine n_jS (As := [.int i, .int n, f]) E hJ jd_pch (c_pch k v h0 h1 f hf) ⟨Nat.le_of_ble_eq_true rfl, Nat.le_of_ble_eq_true rfl⟩ jl_chk_pch dj_chk_5 rfl rfl (Nat.le_of_ble_eq_true rfl) ⟨Nat.le_of_ble_eq_true rfl, Nat.le_of_ble_eq_true rfl⟩ ?_
    refine n_pop E dj_chk_8 rfl ?_
    exact j_vret E hR dj_chk_9
  rcases hJ.2.2.2.2.2 with hz | ⟨t, hz⟩
  · exact n_gets E hz jf_chk_2 dj_chk_2 (go _ (Or.inl rfl))
  · exact n_gets E hz jf_chk_2 dj_chk_2 (go _ (Or.inr ⟨t, rfl⟩))
theorem fb_at : ∀ j : Fin 113, (fb.getD j.val 0) &&& 255 = iI (ftf ((j.val : Nat) : Int)) ∧ ((iI (ftf ((j.val : Nat) : Int))).toUInt32 % 65536).toInt32 = iI (ftf ((j.val : Nat) : Int)) := by decide +kernel
theorem c_lch (k v : Nat) {i : Int} (h0 : 0 ≤ i) (h1 : i < 113) : JT yj_lch prog_16_method_2_code 2 (some .char) 2 k v [.ref v, .int (iI i)] (JQi (iI (ftf i))) := by
  have hr : Rng i := ⟨by omega, by omega⟩
  obtain ⟨hf1, hf2⟩ := fb_at ⟨i.toNat, by omega⟩
  have ei : ((i.toNat : Nat) : Int) = i := by omega
  simp only [ei] at hf1 hf2
  have hn : narrow .char (.int (iI (ftf i))) = .int (iI (ftf i)) := by
    have := ft_in ⟨i.toNat, by omega⟩
    simp only [ei] at this
    exact nar_C (by omega) (by omega)
  refine jt_of (by decide) (Nat.le_of_ble_eq_true rfl) (fun X E hR hJ => ?_)
  replace E : NE X prog_16_method_2_code "java/lang/StringLatin1" 2 (rmL 2) := E
  show NV NoA X 0 [(0, .ref v), (1, .int (iI i))] [] [] 0 0
  refine n_iloadn E dj_lch_0 rfl 1 rfl ?_
  refine n_aloadn E dj_lch_1 rfl 0 rfl ?_
  refine n_tlen (x := iI 113) E hJ.2.2.2.1 (by decide) dj_lch_2 ?_
  refine n_jSv (As := [.int (iI i), .int (iI 113)]) E hJ jd_chk (c_chk k v (fun z => by rw [← iI_0, iI_lt hr Rng_0] at z; omega) ((iI_lt hr (by decide)).mpr h1)) ⟨Nat.le_of_ble_eq_true rfl, Nat.le_of_ble_eq_true rfl⟩ jl_lch_chk dj_lch_3 rfl rfl (Nat.le_of_ble_eq_true rfl) ⟨Nat.le_of_ble_eq_true rfl, Nat.le_of_ble_eq_true rfl⟩ ?_
  refine n_aloadn E dj_lch_6 rfl 0 rfl ?_
  refine n_iloadn E dj_lch_7 rfl 1 rfl ?_
  refine n_tb (x := .int (fb.getD i.toNat 0)) E hJ.2.2.2.1 (iI_in h0 h1 (by decide)) (by rw [iI_clamp h0 (by omega)]) dj_lch_8 ?_
  refine n_sipush (v := 255) E dj_lch_9 (by decide) ?_
  refine n_iand E dj_lch_12 hf1 ?_
  refine n_i2c E dj_lch_13 hf2 ?_
  exact j_iret E hR hn dj_lch_14
theorem c_cha (k v : Nat) {i : Int} (h0 : 0 ≤ i) (h1 : i < 113) : JT yj_cha prog_15_method_56_code 2 (some .char) 3 k v [.ref k, .int (iI i)] (JQi (iI (ftf i))) := by
  have hn : narrow .char (.int (iI (ftf i))) = .int (iI (ftf i)) := by
    have := ft_in ⟨i.toNat, by omega⟩
    simp only [show ((i.toNat : Nat) : Int) = i by omega] at this
    exact nar_C (by omega) (by omega)
  refine jt_of (by decide) (Nat.le_of_ble_eq_true rfl) (fun X E hR hJ => ?_)
  replace E : NE X prog_15_method_56_code "java/lang/String" 2 (rmL 3) := E
  show NV NoA X 0 [(0, .ref k), (1, .int (iI i))] [] [] 0 0
  refine n_aloadn E dj_cha_0 rfl 0 rfl ?_
  refine n_jV (As := []) E hJ rfl jd_isl (c_isl k v) ⟨Nat.le_of_ble_eq_true rfl, Nat.le_of_ble_eq_true rfl⟩ jl_cha_isl dj_cha_1 rfl rfl (Nat.le_of_ble_eq_true rfl) ⟨Nat.le_of_ble_eq_true rfl, Nat.le_of_ble_eq_true rfl⟩ ?_
  refine n_if_eq E 16 dj_cha_4 (by decide) (fun c => absurd c (by decide)) (fun _ => ?_)
  refine n_aloadn E dj_cha_7 rfl 0 rfl ?_
  refine n_getk E hJ.2.2.1 jf_cha_8 dj_cha_8 ?_
  refine n_iloadn E dj_cha_11 rfl 1 rfl ?_
  refine n_jS (As := [.ref v, .int (iI i)]) E hJ jd_lch (c_lch k v h0 h1) ⟨Nat.le_of_ble_eq_true rfl, Nat.le_of_ble_eq_true rfl⟩ jl_cha_lch dj_cha_12 rfl rfl (Nat.le_of_ble_eq_true rfl) ⟨Nat.le_of_ble_eq_true rfl, Nat.le_of_ble_eq_true rfl⟩ ?_
  exact j_iret E hR hn dj_cha_15
