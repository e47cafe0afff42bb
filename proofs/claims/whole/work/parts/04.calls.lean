/-! ===== methods: entry, end, calls, loops ===== -/
def rmL (n : Nat) : Room := { frames := n, cells := 0, slots := 0, locals := 40 * n }
def po_I (dsc : List CD) (Q : Int → MS → Prop) (w : WDt) : Array Value → State → Outcome → State → Prop := va_Qi (S := Int × MS) (fun r u => r = iI u.1 ∧ Rng u.1 ∧ Q u.1 u.2) (fun u t => WH dsc w u.2 t.heap) (wA dsc w)
def po_L (dsc : List CD) (Q : Int64 → MS → Prop) (w : WDt) : Array Value → State → Outcome → State → Prop := va_Ql (S := MS) (fun r u => Q r u) (fun u t => WH dsc w u t.heap) (wA dsc w)
def po_V (dsc : List CD) (Q : MS → Prop) (w : WDt) : Array Value → State → Outcome → State → Prop := va_Qv (S := MS) (fun u => Q u) (fun u t => WH dsc w u t.heap) (wA dsc w)
/-- a method's contract over the abstract state -/
def MT (dsc : List CD) (y : MethodName) (bytes : ByteArray) (maxL : Nat) (ret : Option FieldType) (lv : Nat) (As : (Nat → Nat) → List Value) (σ : MS) (Qc : WDt → Array Value → State → Outcome → State → Prop) : Prop :=
  ∀ (l : Launch) (w : WDt), wInj dsc w → Met l y (.code y bytes maxL ret :: TB) (rmL lv) (va_Pc (As w.2.1) (fun U => WU dsc w σ U)) (Qc w) 0 0 (wA dsc w)
def RT (dsc : List CD) (X : XC) (Qc : WDt → Array Value → State → Outcome → State → Prop) (ret : Option FieldType) : Prop :=
  X.2.2.2.2.1 = MQ X.2.1.2.1 (Qc X.2.2.1) X.2.1.1 X.1.2.2.2.2.1 X.2.2.2.2.2.1 X.2.2.2.2.2.2 (wA dsc X.2.2.1) ∧ X.2.1.2.2.1.sig.returnType = ret
theorem met_of {dsc : List CD} {y : MethodName} {bytes : ByteArray} {maxL lv : Nat} {ret : Option FieldType} {As : (Nat → Nat) → List Value} {σ : MS} {Qc : WDt → Array Value → State → Outcome → State → Prop} (hy : plainName y.cls = true) (hlen : ∀ ad, (lg_sl (As ad)).length ≤ maxL)
    (body : ∀ X : XC, EV dsc X bytes y.cls maxL lv → RT dsc X Qc ret → VV dsc X 0 (lv_args 0 (As (adX X))) [] σ) : MT dsc y bytes maxL ret lv As σ Qc := by
  intro l w hi
  refine Met.ofW (cc := bytes) (maxL := maxL) (ret := ret) hy rfl ?_
  intro p e s m args below meth c s₁ B hml hv
  obtain ⟨rfl, hP, hK, hZ⟩ := hv
  have hts := atoms_spec (ws := Cond.code y bytes maxL ret :: TB) B.pre
  have hb := body ((p, l, e, rmL lv, s, m), ((As w.2.1).toArray, below, meth, c), (w, maxL, MQ below (Qc w) (As w.2.1).toArray s 0 0 (wA dsc w), 0, 0))
    ⟨B.exec, B.bytes, hml, rfl, findClass_of_methodNamed B.named, fun w hw => hts w (List.mem_cons_of_mem _ hw), hK, hi, hZ, Nat.le_refl _, Nat.le_refl _, B.notSynchronized, Nat.zero_le _, Nat.zero_le _⟩ ⟨rfl, B.returns⟩
  rw [lg_entry_eq]
  exact hb s.heap [] _ hP va_S.rf (lv_entry _ (hlen _))
theorem nar_Z {r : Int} (h : r = 0 ∨ r = 1) : narrow .boolean (.int (iI r)) = .int (iI r) := by
  rcases h with rfl | rfl <;> rfl
theorem nar_C {r : Int} (h : 0 ≤ r) (h2 : r < 65536) : narrow .char (.int (iI r)) = .int (iI r) := by
  obtain ⟨n, rfl⟩ := Int.eq_ofNat_of_zero_le h
  rw [iI_nat]
  exact (pk_charN (by omega)).1
theorem Rng_Z {r : Int} (h : r = 0 ∨ r = 1) : Rng r := by
  rcases h with rfl | rfl <;> constructor <;> decide
section RC
variable {dsc : List CD} {X : XC} {cc : ByteArray} {own : String} {nL lv pc : Nat} {L L' : List (Nat × Value)} {st : List Value} {σ : MS}
theorem v_iret (E : EV dsc X cc own nL lv) {Q : Int → MS → Prop} {ty : FieldType} (hR : RT dsc X (po_I dsc Q) (some ty)) {r : Int} (hn : narrow ty (.int (iI r)) = .int (iI r)) (hr : Rng r) (hq : Q r σ) (hd : decode cc pc = .ok (.ireturn, 1)) : VV dsc X pc L [.int (iI r)] σ := by
  intro H locs ls hP hS hL
  rw [hR.1]
  exact W.zret (hlocks := E.2.2.2.2.2.2.2.2.2.2.2.1) E.1 E.2.1 hR.2 hn (fun t ht hW => ⟨⟨iI r, (r, σ), rfl, ⟨rfl, hr, hq⟩, by show WH dsc X.2.2.1 σ t.heap; rw [ht]; exact hP⟩, hS.F ht⟩) hS.2.2 hd
theorem v_lret (E : EV dsc X cc own nL lv) {Q : Int64 → MS → Prop} (hR : RT dsc X (po_L dsc Q) (some .long)) {r : Int64} (hq : Q r σ) (hd : decode cc pc = .ok (.lreturn, 1)) : VV dsc X pc L [.long r] σ := by
  intro H locs ls hP hS hL
  rw [hR.1]
  exact W.lret (hlocks := E.2.2.2.2.2.2.2.2.2.2.2.1) E.1 E.2.1 hR.2 (fun t ht hW => ⟨⟨r, σ, rfl, hq, by show WH dsc X.2.2.1 σ t.heap; rw [ht]; exact hP⟩, hS.F ht⟩) hS.2.2 hd
theorem v_vret (E : EV dsc X cc own nL lv) {Q : MS → Prop} (hR : RT dsc X (po_V dsc Q) none) (hq : Q σ) (hd : decode cc pc = .ok (.return_, 1)) : VV dsc X pc L [] σ := by
  intro H locs ls hP hS hL
  rw [hR.1]
  exact W.vret (hlocks := E.2.2.2.2.2.2.2.2.2.2.2.1) E.1 E.2.1 hR.2 (fun t ht hW => ⟨⟨σ, rfl, hq, by show WH dsc X.2.2.1 σ t.heap; rw [ht]; exact hP⟩, hS.F ht⟩) hS.2.2 hd
def MDv (y : MethodName) (bytes : ByteArray) (maxL : Nat) (ret : Option FieldType) (n : Nat) : Prop :=
  Cond.code y bytes maxL ret ∈ TB ∧ Cond.instanceMethod y ∈ TB ∧ Cond.selects y.cls y y ∈ TB ∧ Cond.initialized y.cls ∈ TB ∧ y.cls ≠ "java/lang/invoke/MethodHandle" ∧ y.cls ≠ "java/lang/invoke/VarHandle" ∧ (parseMethodDescriptor y.desc).map (fun d => d.parameters.length) = some n
def MDs (y : MethodName) (bytes : ByteArray) (maxL : Nat) (ret : Option FieldType) (n : Nat) : Prop :=
  Cond.code y bytes maxL ret ∈ TB ∧ Cond.static y ∈ TB ∧ Cond.initialized y.cls ∈ TB ∧ y.cls ≠ "java/lang/invoke/MethodHandle" ∧ y.cls ≠ "java/lang/invoke/VarHandle" ∧ (parseMethodDescriptor y.desc).map (fun d => d.parameters.length) = some n
theorem TB_good {y : MethodName} {bytes : ByteArray} {maxL : Nat} {ret : Option FieldType} (h : Cond.code y bytes maxL ret ∈ TB) : GoodIn TB (.code y bytes maxL ret :: TB) := by
  intro w hw
  have h1 : w ∈ TB := by
    rcases List.mem_cons.mp hw with e | e
    · rw [e]; exact h
    · exact e
  exact ⟨h1, good_of_word (List.mem_filter.mp h1).2⟩
theorem TB_goodV {y : MethodName} {bytes : ByteArray} {maxL n ix : Nat} {ret : Option FieldType} (md : MDv y bytes maxL ret n) (hl : Cond.methodLink own ix y ∈ TB) : GoodIn TB (wsV own ix y.cls y (.code y bytes maxL ret :: TB)) := by
  intro w hw
  have h1 : w ∈ TB := by
    simp only [wsV, List.mem_append, List.mem_cons, List.not_mem_nil, or_false] at hw
    rcases hw with hw | hw
    · rcases hw with e | e | e | e <;> (rw [e]; first | exact hl | exact md.2.1 | exact md.2.2.1 | exact md.2.2.2.1)
    · rcases hw with e | e
      · rw [e]; exact md.1
      · exact e
  exact ⟨h1, good_of_word (List.mem_filter.mp h1).2⟩
theorem TB_goodS {y : MethodName} {bytes : ByteArray} {maxL n ix : Nat} {ret : Option FieldType} (md : MDs y bytes maxL ret n) (hl : Cond.methodLink own ix y ∈ TB) : GoodIn TB (va_wsS own ix y (.code y bytes maxL ret :: TB)) := by
  intro w hw
  have h1 : w ∈ TB := by
    simp only [va_wsS, List.mem_append, List.mem_cons, List.not_mem_nil, or_false] at hw
    rcases hw with hw | hw
    · rcases hw with e | e | e <;> (rw [e]; first | exact hl | exact md.2.1 | exact md.2.2.1)
    · rcases hw with e | e
      · rw [e]; exact md.1
      · exact e
  exact ⟨h1, good_of_word (List.mem_filter.mp h1).2⟩
theorem WU_blind {w : WDt} {As : List Value} : FrameBlind (va_Pc As (fun U => WU dsc w σ U)) :=
  fun a U g mk q => ⟨q.1, q.2.1, va_K.moved (u := U) (U := U.calling g mk a) (Vm.Alike.refl U.vm) q.2.2.1, SZ.same (s := U) (U := U.calling g mk a) q.2.2.2 rfl⟩
theorem WU_at (E : EV dsc X cc own nL lv) {H : Heap} {locs : List Loc} (hP : WH dsc X.2.2.1 σ H) (hS : va_S (wA dsc X.2.2.1) X.1.2.2.2.2.1.heap H locs) {U : State} (hU : U.heap = H) (hW : X.1.2.2.2.2.1.WarmedH U.vm) : WU dsc X.2.2.1 σ U :=
  ⟨by rw [hU]; exact hP, va_K.moved hW.alike E.2.2.2.2.2.2.1, SZ.kept E.2.2.2.2.2.2.2.2.1 hW (fun a h1 h2 => by rw [hU]; exact hS.2.1 a h1 h2)⟩
variable {y : MethodName} {bytes : ByteArray} {maxL n lvc ix b ci N : Nat} {ret : Option FieldType} {As : (Nat → Nat) → List Value} {fs : List (Nat × Nat)} {T : u_T} {stk : List Value} {Qc : WDt → Array Value → State → Outcome → State → Prop}
theorem v_runV (E : EV dsc X cc own nL lv) (md : MDv y bytes maxL ret n) (hM : MT dsc y bytes maxL ret lvc (fun ad => .ref (ad b) :: As ad) σ Qc) (hb : dsc[b]? = some (.inr (ci, fs))) (hcl : CLS[ci]? = some (y.cls, T, N)) (hlv : lvc + 1 ≤ lv ∧ 8 + (maxL + 11) + 40 * lvc ≤ 40 * lv) (hl : Cond.methodLink own ix y ∈ TB) (hd : decode cc pc = .ok (.invokevirtual ix, 3)) (hn : ∀ ad, (As ad).length = n) (hcat : (st.map fun v => v.category).sum ≤ 8)
    {H : Heap} {locs : List Loc} {ls : Array Slot} (hP : WH dsc X.2.2.1 σ H) (hS : va_S (wA dsc X.2.2.1) X.1.2.2.2.2.1.heap H locs) (hL : lv_has ls X.2.2.2.1 L) :
    va_Run X.1.1 X.1.2.1 X.1.2.2.1 X.1.2.2.2.1 X.1.2.2.2.2.1 X.1.2.2.2.2.2 X.2.1.1 X.2.1.2.1 X.2.1.2.2.1 X.2.1.2.2.2 H locs X.2.2.2.2.2.1 X.2.2.2.2.2.2 0 0 (F0 X.1.2.2.2.2.2 pc ls ((As (adX X)).reverse ++ .ref (adX X b) :: st)) st (Qc X.2.2.1 (Value.ref (adX X b) :: As (adX X)).toArray) (wA dsc X.2.2.1) :=
  va_runV (As := As (adX X)) (rest := st) ⟨E.1, E.2.1, E.2.2.1, E.2.2.2.2.1, E.2.2.2.2.2.1⟩ (hM X.1.2.1 X.2.2.1 E.2.2.2.2.2.2.2.1) (cwV n E.2.2.2.2.2.1 (TB_goodV md hl) rfl rfl rfl ⟨rfl, md.2.2.2.2⟩ ⟨Nat.le_trans hlv.1 E.2.2.2.2.2.2.2.2.2.1, Nat.le_trans hlv.2 E.2.2.2.2.2.2.2.2.2.2.1⟩)
    ⟨WU_blind, va_recv E.2.2.2.2.2.2.1 hP.1 hcl (wl_get X.2.2.1 σ hb), fun U hU hW => ⟨rfl, WU_at E hP hS hU hW⟩⟩ rfl (hn _) (hL.1.trans E.2.2.2.1) rfl (lv_room hcat) hd E.2.2.2.2.2.2.2.2.2.2.2.2
theorem v_runS (E : EV dsc X cc own nL lv) (md : MDs y bytes maxL ret n) (hM : MT dsc y bytes maxL ret lvc As σ Qc) (hlv : lvc + 1 ≤ lv ∧ 8 + (maxL + 11) + 40 * lvc ≤ 40 * lv) (hl : Cond.methodLink own ix y ∈ TB) (hd : decode cc pc = .ok (.invokestatic ix, 3)) (hn : ∀ ad, (As ad).length = n) (hcat : (st.map fun v => v.category).sum ≤ 8)
    {H : Heap} {locs : List Loc} {ls : Array Slot} (hP : WH dsc X.2.2.1 σ H) (hS : va_S (wA dsc X.2.2.1) X.1.2.2.2.2.1.heap H locs) (hL : lv_has ls X.2.2.2.1 L) :
    va_Run X.1.1 X.1.2.1 X.1.2.2.1 X.1.2.2.2.1 X.1.2.2.2.2.1 X.1.2.2.2.2.2 X.2.1.1 X.2.1.2.1 X.2.1.2.2.1 X.2.1.2.2.2 H locs X.2.2.2.2.2.1 X.2.2.2.2.2.2 0 0 (F0 X.1.2.2.2.2.2 pc ls ((As (adX X)).reverse ++ st)) st (Qc X.2.2.1 (As (adX X)).toArray) (wA dsc X.2.2.1) :=
  va_runS (As := As (adX X)) (rest := st) ⟨E.1, E.2.1, E.2.2.1, E.2.2.2.2.1, E.2.2.2.2.2.1⟩ (hM X.1.2.1 X.2.2.1 E.2.2.2.2.2.2.2.1) (va_cwS n E.2.2.2.2.2.1 (TB_goodS md hl) rfl rfl rfl md.2.2.2 ⟨Nat.le_trans hlv.1 E.2.2.2.2.2.2.2.2.2.1, Nat.le_trans hlv.2 E.2.2.2.2.2.2.2.2.2.2.1⟩)
    ⟨WU_blind, fun U hU hW => ⟨rfl, WU_at E hP hS hU hW⟩⟩ rfl (hn _) (hL.1.trans E.2.2.2.1) rfl (lv_room hcat) hd E.2.2.2.2.2.2.2.2.2.2.2.2
/-- a private static method of the class around -/
theorem v_runN (E : EV dsc X cc own nL lv) (md : MDs y bytes maxL ret n) (hM : MT dsc y bytes maxL ret lvc As σ Qc) (hlv : lvc + 1 ≤ lv ∧ 8 + (maxL + 11) + 40 * lvc ≤ 40 * lv) {host : String} (hl : va_Nw (.methodLinkNest own ix y host) X.1.2.2.2.2.1) (hd : decode cc pc = .ok (.invokestatic ix, 3)) (hn : ∀ ad, (As ad).length = n) (hcat : (st.map fun v => v.category).sum ≤ 8)
    {H : Heap} {locs : List Loc} {ls : Array Slot} (hP : WH dsc X.2.2.1 σ H) (hS : va_S (wA dsc X.2.2.1) X.1.2.2.2.2.1.heap H locs) (hL : lv_has ls X.2.2.2.1 L) :
    va_Run X.1.1 X.1.2.1 X.1.2.2.1 X.1.2.2.2.1 X.1.2.2.2.2.1 X.1.2.2.2.2.2 X.2.1.1 X.2.1.2.1 X.2.1.2.2.1 X.2.1.2.2.2 H locs X.2.2.2.2.2.1 X.2.2.2.2.2.2 0 0 (F0 X.1.2.2.2.2.2 pc ls ((As (adX X)).reverse ++ st)) st (Qc X.2.2.1 (As (adX X)).toArray) (wA dsc X.2.2.1) :=
  va_runSN (As := As (adX X)) (rest := st) ⟨E.1, E.2.1, E.2.2.1, E.2.2.2.2.1, E.2.2.2.2.2.1⟩ (hM X.1.2.1 X.2.2.1 E.2.2.2.2.2.2.2.1) ⟨va_cnB n E.2.2.2.2.2.1 (TB_good md.1) rfl rfl rfl hl (E.2.2.2.2.2.1 _ md.2.2.1) md.2.2.2 ⟨Nat.le_trans hlv.1 E.2.2.2.2.2.2.2.2.2.1, Nat.le_trans hlv.2 E.2.2.2.2.2.2.2.2.2.2.1⟩, E.2.2.2.2.2.1 _ md.2.1, trivial⟩
    ⟨WU_blind, fun U hU hW => ⟨rfl, WU_at E hP hS hU hW⟩⟩ rfl (hn _) (hL.1.trans E.2.2.2.1) rfl (lv_room hcat) hd E.2.2.2.2.2.2.2.2.2.2.2.2
theorem v_callVI (E : EV dsc X cc own nL lv) (md : MDv y bytes maxL ret n) {Q : Int → MS → Prop} (hM : MT dsc y bytes maxL ret lvc (fun ad => .ref (ad b) :: As ad) σ (po_I dsc Q)) (hb : dsc[b]? = some (.inr (ci, fs))) (hcl : CLS[ci]? = some (y.cls, T, N)) (hlv : lvc + 1 ≤ lv ∧ 8 + (maxL + 11) + 40 * lvc ≤ 40 * lv) (hl : Cond.methodLink own ix y ∈ TB) (hd : decode cc pc = .ok (.invokevirtual ix, 3)) (hn : ∀ ad, (As ad).length = n) (hst : stk = (As (adX X)).reverse ++ .ref (adX X b) :: st) (hcat : (st.map fun v => v.category).sum ≤ 8) (h : ∀ r σ', Rng r → Q r σ' → VV dsc X (pc + 3) L (.int (iI r) :: st) σ') : VV dsc X pc L stk σ := by
  intro H locs ls hP hS hL
  subst hst
  exact va_calli (v_runV E md hM hb hcl hlv hl hd hn hcat hP hS hL) hS (fun q _ z => z) (fun q z => z) (fun r u t H1 locs1 ht hvm hp hB hz hk hS1 => by
    obtain ⟨x, σ'⟩ := u
    obtain ⟨rfl, hr, hq⟩ := hp
    exact h x σ' hr hq H1 locs1 ls (by rw [← ht]; exact hB) hS1 hL)
theorem v_callVL (E : EV dsc X cc own nL lv) (md : MDv y bytes maxL ret n) {Q : Int64 → MS → Prop} (hM : MT dsc y bytes maxL ret lvc (fun ad => .ref (ad b) :: As ad) σ (po_L dsc Q)) (hb : dsc[b]? = some (.inr (ci, fs))) (hcl : CLS[ci]? = some (y.cls, T, N)) (hlv : lvc + 1 ≤ lv ∧ 8 + (maxL + 11) + 40 * lvc ≤ 40 * lv) (hl : Cond.methodLink own ix y ∈ TB) (hd : decode cc pc = .ok (.invokevirtual ix, 3)) (hn : ∀ ad, (As ad).length = n) (hst : stk = (As (adX X)).reverse ++ .ref (adX X b) :: st) (hcat : (st.map fun v => v.category).sum ≤ 8) (h : ∀ r σ', Q r σ' → VV dsc X (pc + 3) L (.long r :: st) σ') : VV dsc X pc L stk σ := by
  intro H locs ls hP hS hL
  subst hst
  exact va_calll (v_runV E md hM hb hcl hlv hl hd hn hcat hP hS hL) hS (fun q _ z => z) (fun q z => z) (fun r u t H1 locs1 ht hvm hp hB hz hk hS1 => h r u hp H1 locs1 ls (by rw [← ht]; exact hB) hS1 hL)
theorem v_callVV (E : EV dsc X cc own nL lv) (md : MDv y bytes maxL ret n) {Q : MS → Prop} (hM : MT dsc y bytes maxL ret lvc (fun ad => .ref (ad b) :: As ad) σ (po_V dsc Q)) (hb : dsc[b]? = some (.inr (ci, fs))) (hcl : CLS[ci]? = some (y.cls, T, N)) (hlv : lvc + 1 ≤ lv ∧ 8 + (maxL + 11) + 40 * lvc ≤ 40 * lv) (hl : Cond.methodLink own ix y ∈ TB) (hd : decode cc pc = .ok (.invokevirtual ix, 3)) (hn : ∀ ad, (As ad).length = n) (hst : stk = (As (adX X)).reverse ++ .ref (adX X b) :: st) (hcat : (st.map fun v => v.category).sum ≤ 8) (h : ∀ σ', Q σ' → VV dsc X (pc + 3) L st σ') : VV dsc X pc L stk σ := by
  intro H locs ls hP hS hL
  subst hst
  exact va_callv (v_runV E md hM hb hcl hlv hl hd hn hcat hP hS hL) hS (fun q _ z => z) (fun q z => z) (fun u t H1 locs1 ht hvm hp hB hz hk hS1 => h u hp H1 locs1 ls (by rw [← ht]; exact hB) hS1 hL)
theorem v_callSI (E : EV dsc X cc own nL lv) (md : MDs y bytes maxL ret n) {Q : Int → MS → Prop} (hM : MT dsc y bytes maxL ret lvc As σ (po_I dsc Q)) (hlv : lvc + 1 ≤ lv ∧ 8 + (maxL + 11) + 40 * lvc ≤ 40 * lv) (hl : Cond.methodLink own ix y ∈ TB) (hd : decode cc pc = .ok (.invokestatic ix, 3)) (hn : ∀ ad, (As ad).length = n) (hst : stk = (As (adX X)).reverse ++ st) (hcat : (st.map fun v => v.category).sum ≤ 8) (h : ∀ r σ', Rng r → Q r σ' → VV dsc X (pc + 3) L (.int (iI r) :: st) σ') : VV dsc X pc L stk σ := by
  intro H locs ls hP hS hL
  subst hst
  exact va_calli (v_runS E md hM hlv hl hd hn hcat hP hS hL) hS (fun q _ z => z) (fun q z => z) (fun r u t H1 locs1 ht hvm hp hB hz hk hS1 => by
    obtain ⟨x, σ'⟩ := u
    obtain ⟨rfl, hr, hq⟩ := hp
    exact h x σ' hr hq H1 locs1 ls (by rw [← ht]; exact hB) hS1 hL)
theorem v_callSL (E : EV dsc X cc own nL lv) (md : MDs y bytes maxL ret n) {Q : Int64 → MS → Prop} (hM : MT dsc y bytes maxL ret lvc As σ (po_L dsc Q)) (hlv : lvc + 1 ≤ lv ∧ 8 + (maxL + 11) + 40 * lvc ≤ 40 * lv) (hl : Cond.methodLink own ix y ∈ TB) (hd : decode cc pc = .ok (.invokestatic ix, 3)) (hn : ∀ ad, (As ad).length = n) (hst : stk = (As (adX X)).reverse ++ st) (hcat : (st.map fun v => v.category).sum ≤ 8) (h : ∀ r σ', Q r σ' → VV dsc X (pc + 3) L (.long r :: st) σ') : VV dsc X pc L stk σ := by
  intro H locs ls hP hS hL
  subst hst
  exact va_calll (v_runS E md hM hlv hl hd hn hcat hP hS hL) hS (fun q _ z => z) (fun q z => z) (fun r u t H1 locs1 ht hvm hp hB hz hk hS1 => h r u hp H1 locs1 ls (by rw [← ht]; exact hB) hS1 hL)
theorem v_callSV (E : EV dsc X cc own nL lv) (md : MDs y bytes maxL ret n) {Q : MS → Prop} (hM : MT dsc y bytes maxL ret lvc As σ (po_V dsc Q)) (hlv : lvc + 1 ≤ lv ∧ 8 + (maxL + 11) + 40 * lvc ≤ 40 * lv) (hl : Cond.methodLink own ix y ∈ TB) (hd : decode cc pc = .ok (.invokestatic ix, 3)) (hn : ∀ ad, (As ad).length = n) (hst : stk = (As (adX X)).reverse ++ st) (hcat : (st.map fun v => v.category).sum ≤ 8) (h : ∀ σ', Q σ' → VV dsc X (pc + 3) L st σ') : VV dsc X pc L stk σ := by
  intro H locs ls hP hS hL
  subst hst
  exact va_callv (v_runS E md hM hlv hl hd hn hcat hP hS hL) hS (fun q _ z => z) (fun q z => z) (fun u t H1 locs1 ht hvm hp hB hz hk hS1 => h u hp H1 locs1 ls (by rw [← ht]; exact hB) hS1 hL)
theorem v_callNI (E : EV dsc X cc own nL lv) (md : MDs y bytes maxL ret n) {Q : Int → MS → Prop} (hM : MT dsc y bytes maxL ret lvc As σ (po_I dsc Q)) (hlv : lvc + 1 ≤ lv ∧ 8 + (maxL + 11) + 40 * lvc ≤ 40 * lv) {host : String} (hl : va_Nw (.methodLinkNest own ix y host) X.1.2.2.2.2.1) (hd : decode cc pc = .ok (.invokestatic ix, 3)) (hn : ∀ ad, (As ad).length = n) (hst : stk = (As (adX X)).reverse ++ st) (hcat : (st.map fun v => v.category).sum ≤ 8) (h : ∀ r σ', Rng r → Q r σ' → VV dsc X (pc + 3) L (.int (iI r) :: st) σ') : VV dsc X pc L stk σ := by
  intro H locs ls hP hS hL
  subst hst
  exact va_calli (v_runN E md hM hlv hl hd hn hcat hP hS hL) hS (fun q _ z => z) (fun q z => z) (fun r u t H1 locs1 ht hvm hp hB hz hk hS1 => by
    obtain ⟨x, σ'⟩ := u
    obtain ⟨rfl, hr, hq⟩ := hp
    exact h x σ' hr hq H1 locs1 ls (by rw [← ht]; exact hB) hS1 hL)
theorem v_callNL (E : EV dsc X cc own nL lv) (md : MDs y bytes maxL ret n) {Q : Int64 → MS → Prop} (hM : MT dsc y bytes maxL ret lvc As σ (po_L dsc Q)) (hlv : lvc + 1 ≤ lv ∧ 8 + (maxL + 11) + 40 * lvc ≤ 40 * lv) {host : String} (hl : va_Nw (.methodLinkNest own ix y host) X.1.2.2.2.2.1) (hd : decode cc pc = .ok (.invokestatic ix, 3)) (hn : ∀ ad, (As ad).length = n) (hst : stk = (As (adX X)).reverse ++ st) (hcat : (st.map fun v => v.category).sum ≤ 8) (h : ∀ r σ', Q r σ' → VV dsc X (pc + 3) L (.long r :: st) σ') : VV dsc X pc L stk σ := by
  intro H locs ls hP hS hL
  subst hst
  exact va_calll (v_runN E md hM hlv hl hd hn hcat hP hS hL) hS (fun q _ z => z) (fun q z => z) (fun r u t H1 locs1 ht hvm hp hB hz hk hS1 => h r u hp H1 locs1 ls (by rw [← ht]; exact hB) hS1 hL)
theorem v_callNV (E : EV dsc X cc own nL lv) (md : MDs y bytes maxL ret n) {Q : MS → Prop} (hM : MT dsc y bytes maxL ret lvc As σ (po_V dsc Q)) (hlv : lvc + 1 ≤ lv ∧ 8 + (maxL + 11) + 40 * lvc ≤ 40 * lv) {host : String} (hl : va_Nw (.methodLinkNest own ix y host) X.1.2.2.2.2.1) (hd : decode cc pc = .ok (.invokestatic ix, 3)) (hn : ∀ ad, (As ad).length = n) (hst : stk = (As (adX X)).reverse ++ st) (hcat : (st.map fun v => v.category).sum ≤ 8) (h : ∀ σ', Q σ' → VV dsc X (pc + 3) L st σ') : VV dsc X pc L stk σ := by
  intro H locs ls hP hS hL
  subst hst
  exact va_callv (v_runN E md hM hlv hl hd hn hcat hP hS hL) hS (fun q _ z => z) (fun q z => z) (fun u t H1 locs1 ht hvm hp hB hz hk hS1 => h u hp H1 locs1 ls (by rw [← ht]; exact hB) hS1 hL)
theorem v_loop {ι : Type} (LL : ι → List (Nat × Value)) (I : ι → MS → Prop) (μ : ι → MS → Nat) (hs : ∀ i σ, I i σ → (∀ i' σ', I i' σ' → μ i' σ' < μ i σ → VV dsc X pc (LL i') [] σ') → VV dsc X pc (LL i) [] σ) : ∀ i σ, I i σ → VV dsc X pc (LL i) [] σ := by
  have key : ∀ (n : Nat) i σ, μ i σ < n → I i σ → VV dsc X pc (LL i) [] σ := by
    intro n
    induction n with
    | zero => intro i σ h; omega
    | succ n ih => exact fun i σ h hI => hs i σ hI (fun i' σ' hI' h' => ih i' σ' (by omega) hI')
  exact fun i σ hI => key _ i σ (Nat.lt_succ_self _) hI
theorem v_loop0 (LL : List (Nat × Value)) (I : MS → Prop) (μ : MS → Nat) (hs : ∀ (σ : MS), I σ → (∀ (σ' : MS), I σ' → μ σ' < μ σ → VV dsc X pc (LL) [] σ') → VV dsc X pc (LL) [] σ)  (σ : MS) (h : I σ) : VV dsc X pc (LL) [] σ :=
  v_loop (ι := Unit) (fun i => LL) (fun i => I) (fun i => μ) (fun i σ hI ih => hs σ hI (fun σ' hI' hm => ih () σ' hI' hm)) () σ h
theorem v_loop1 {A1 : Type} (LL : A1 → List (Nat × Value)) (I : A1 → MS → Prop) (μ : A1 → MS → Nat) (hs : ∀ (a1 : A1) (σ : MS), I a1 σ → (∀ (b1 : A1) (σ' : MS), I b1 σ' → μ b1 σ' < μ a1 σ → VV dsc X pc (LL b1) [] σ') → VV dsc X pc (LL a1) [] σ) (a1 : A1) (σ : MS) (h : I a1 σ) : VV dsc X pc (LL a1) [] σ :=
  v_loop (ι := A1) (fun i => LL i) (fun i => I i) (fun i => μ i) (fun i σ hI ih => hs i σ hI (fun b1 σ' hI' hm => ih b1 σ' hI' hm)) a1 σ h
theorem v_ploop1 {A1 : Type} (σ : MS) (LL : A1 → List (Nat × Value)) (I : A1 → Prop) (μ : A1 → Nat) (hs : ∀ (a1 : A1), I a1 → (∀ (b1 : A1), I b1 → μ b1 < μ a1 → VV dsc X pc (LL b1) [] σ) → VV dsc X pc (LL a1) [] σ) (a1 : A1) (h : I a1) : VV dsc X pc (LL a1) [] σ :=
  v_loop (ι := A1) (fun i => LL i) (fun i z => z = σ ∧ I i) (fun i _ => μ i) (fun i z hI ih => by
    obtain ⟨e, hI⟩ := hI
    subst e
    exact hs i hI (fun b1 hI' hm => ih b1 _ ⟨rfl, hI'⟩ hm)) a1 σ ⟨rfl, h⟩
theorem v_loop2 {A1 A2 : Type} (LL : A1 → A2 → List (Nat × Value)) (I : A1 → A2 → MS → Prop) (μ : A1 → A2 → MS → Nat) (hs : ∀ (a1 : A1) (a2 : A2) (σ : MS), I a1 a2 σ → (∀ (b1 : A1) (b2 : A2) (σ' : MS), I b1 b2 σ' → μ b1 b2 σ' < μ a1 a2 σ → VV dsc X pc (LL b1 b2) [] σ') → VV dsc X pc (LL a1 a2) [] σ) (a1 : A1) (a2 : A2) (σ : MS) (h : I a1 a2 σ) : VV dsc X pc (LL a1 a2) [] σ :=
  v_loop (ι := A1 × A2) (fun i => LL i.1 i.2) (fun i => I i.1 i.2) (fun i => μ i.1 i.2) (fun i σ hI ih => hs i.1 i.2 σ hI (fun b1 b2 σ' hI' hm => ih (b1, b2) σ' hI' hm)) (a1, a2) σ h
theorem v_ploop2 {A1 A2 : Type} (σ : MS) (LL : A1 → A2 → List (Nat × Value)) (I : A1 → A2 → Prop) (μ : A1 → A2 → Nat) (hs : ∀ (a1 : A1) (a2 : A2), I a1 a2 → (∀ (b1 : A1) (b2 : A2), I b1 b2 → μ b1 b2 < μ a1 a2 → VV dsc X pc (LL b1 b2) [] σ) → VV dsc X pc (LL a1 a2) [] σ) (a1 : A1) (a2 : A2) (h : I a1 a2) : VV dsc X pc (LL a1 a2) [] σ :=
  v_loop (ι := A1 × A2) (fun i => LL i.1 i.2) (fun i z => z = σ ∧ I i.1 i.2) (fun i _ => μ i.1 i.2) (fun i z hI ih => by
    obtain ⟨e, hI⟩ := hI
    subst e
    exact hs i.1 i.2 hI (fun b1 b2 hI' hm => ih (b1, b2) _ ⟨rfl, hI'⟩ hm)) (a1, a2) σ ⟨rfl, h⟩
theorem v_loop3 {A1 A2 A3 : Type} (LL : A1 → A2 → A3 → List (Nat × Value)) (I : A1 → A2 → A3 → MS → Prop) (μ : A1 → A2 → A3 → MS → Nat) (hs : ∀ (a1 : A1) (a2 : A2) (a3 : A3) (σ : MS), I a1 a2 a3 σ → (∀ (b1 : A1) (b2 : A2) (b3 : A3) (σ' : MS), I b1 b2 b3 σ' → μ b1 b2 b3 σ' < μ a1 a2 a3 σ → VV dsc X pc (LL b1 b2 b3) [] σ') → VV dsc X pc (LL a1 a2 a3) [] σ) (a1 : A1) (a2 : A2) (a3 : A3) (σ : MS) (h : I a1 a2 a3 σ) : VV dsc X pc (LL a1 a2 a3) [] σ :=
  v_loop (ι := A1 × A2 × A3) (fun i => LL i.1 i.2.1 i.2.2) (fun i => I i.1 i.2.1 i.2.2) (fun i => μ i.1 i.2.1 i.2.2) (fun i σ hI ih => hs i.1 i.2.1 i.2.2 σ hI (fun b1 b2 b3 σ' hI' hm => ih (b1, b2, b3) σ' hI' hm)) (a1, a2, a3) σ h
theorem v_ploop3 {A1 A2 A3 : Type} (σ : MS) (LL : A1 → A2 → A3 → List (Nat × Value)) (I : A1 → A2 → A3 → Prop) (μ : A1 → A2 → A3 → Nat) (hs : ∀ (a1 : A1) (a2 : A2) (a3 : A3), I a1 a2 a3 → (∀ (b1 : A1) (b2 : A2) (b3 : A3), I b1 b2 b3 → μ b1 b2 b3 < μ a1 a2 a3 → VV dsc X pc (LL b1 b2 b3) [] σ) → VV dsc X pc (LL a1 a2 a3) [] σ) (a1 : A1) (a2 : A2) (a3 : A3) (h : I a1 a2 a3) : VV dsc X pc (LL a1 a2 a3) [] σ :=
  v_loop (ι := A1 × A2 × A3) (fun i => LL i.1 i.2.1 i.2.2) (fun i z => z = σ ∧ I i.1 i.2.1 i.2.2) (fun i _ => μ i.1 i.2.1 i.2.2) (fun i z hI ih => by
    obtain ⟨e, hI⟩ := hI
    subst e
    exact hs i.1 i.2.1 i.2.2 hI (fun b1 b2 b3 hI' hm => ih (b1, b2, b3) _ ⟨rfl, hI'⟩ hm)) (a1, a2, a3) σ ⟨rfl, h⟩
theorem v_loop4 {A1 A2 A3 A4 : Type} (LL : A1 → A2 → A3 → A4 → List (Nat × Value)) (I : A1 → A2 → A3 → A4 → MS → Prop) (μ : A1 → A2 → A3 → A4 → MS → Nat) (hs : ∀ (a1 : A1) (a2 : A2) (a3 : A3) (a4 : A4) (σ : MS), I a1 a2 a3 a4 σ → (∀ (b1 : A1) (b2 : A2) (b3 : A3) (b4 : A4) (σ' : MS), I b1 b2 b3 b4 σ' → μ b1 b2 b3 b4 σ' < μ a1 a2 a3 a4 σ → VV dsc X pc (LL b1 b2 b3 b4) [] σ') → VV dsc X pc (LL a1 a2 a3 a4) [] σ) (a1 : A1) (a2 : A2) (a3 : A3) (a4 : A4) (σ : MS) (h : I a1 a2 a3 a4 σ) : VV dsc X pc (LL a1 a2 a3 a4) [] σ :=
  v_loop (ι := A1 × A2 × A3 × A4) (fun i => LL i.1 i.2.1 i.2.2.1 i.2.2.2) (fun i => I i.1 i.2.1 i.2.2.1 i.2.2.2) (fun i => μ i.1 i.2.1 i.2.2.1 i.2.2.2) (fun i σ hI ih => hs i.1 i.2.1 i.2.2.1 i.2.2.2 σ hI (fun b1 b2 b3 b4 σ' hI' hm => ih (b1, b2, b3, b4) σ' hI' hm)) (a1, a2, a3, a4) σ h
theorem v_ploop4 {A1 A2 A3 A4 : Type} (σ : MS) (LL : A1 → A2 → A3 → A4 → List (Nat × Value)) (I : A1 → A2 → A3 → A4 → Prop) (μ : A1 → A2 → A3 → A4 → Nat) (hs : ∀ (a1 : A1) (a2 : A2) (a3 : A3) (a4 : A4), I a1 a2 a3 a4 → (∀ (b1 : A1) (b2 : A2) (b3 : A3) (b4 : A4), I b1 b2 b3 b4 → μ b1 b2 b3 b4 < μ a1 a2 a3 a4 → VV dsc X pc (LL b1 b2 b3 b4) [] σ) → VV dsc X pc (LL a1 a2 a3 a4) [] σ) (a1 : A1) (a2 : A2) (a3 : A3) (a4 : A4) (h : I a1 a2 a3 a4) : VV dsc X pc (LL a1 a2 a3 a4) [] σ :=
  v_loop (ι := A1 × A2 × A3 × A4) (fun i => LL i.1 i.2.1 i.2.2.1 i.2.2.2) (fun i z => z = σ ∧ I i.1 i.2.1 i.2.2.1 i.2.2.2) (fun i _ => μ i.1 i.2.1 i.2.2.1 i.2.2.2) (fun i z hI ih => by
    obtain ⟨e, hI⟩ := hI
    subst e
    exact hs i.1 i.2.1 i.2.2.1 i.2.2.2 hI (fun b1 b2 b3 b4 hI' hm => ih (b1, b2, b3, b4) _ ⟨rfl, hI'⟩ hm)) (a1, a2, a3, a4) σ ⟨rfl, h⟩
theorem v_loop5 {A1 A2 A3 A4 A5 : Type} (LL : A1 → A2 → A3 → A4 → A5 → List (Nat × Value)) (I : A1 → A2 → A3 → A4 → A5 → MS → Prop) (μ : A1 → A2 → A3 → A4 → A5 → MS → Nat) (hs : ∀ (a1 : A1) (a2 : A2) (a3 : A3) (a4 : A4) (a5 : A5) (σ : MS), I a1 a2 a3 a4 a5 σ → (∀ (b1 : A1) (b2 : A2) (b3 : A3) (b4 : A4) (b5 : A5) (σ' : MS), I b1 b2 b3 b4 b5 σ' → μ b1 b2 b3 b4 b5 σ' < μ a1 a2 a3 a4 a5 σ → VV dsc X pc (LL b1 b2 b3 b4 b5) [] σ') → VV dsc X pc (LL a1 a2 a3 a4 a5) [] σ) (a1 : A1) (a2 : A2) (a3 : A3) (a4 : A4) (a5 : A5) (σ : MS) (h : I a1 a2 a3 a4 a5 σ) : VV dsc X pc (LL a1 a2 a3 a4 a5) [] σ :=
  v_loop (ι := A1 × A2 × A3 × A4 × A5) (fun i => LL i.1 i.2.1 i.2.2.1 i.2.2.2.1 i.2.2.2.2) (fun i => I i.1 i.2.1 i.2.2.1 i.2.2.2.1 i.2.2.2.2) (fun i => μ i.1 i.2.1 i.2.2.1 i.2.2.2.1 i.2.2.2.2) (fun i σ hI ih => hs i.1 i.2.1 i.2.2.1 i.2.2.2.1 i.2.2.2.2 σ hI (fun b1 b2 b3 b4 b5 σ' hI' hm => ih (b1, b2, b3, b4, b5) σ' hI' hm)) (a1, a2, a3, a4, a5) σ h
theorem v_ploop5 {A1 A2 A3 A4 A5 : Type} (σ : MS) (LL : A1 → A2 → A3 → A4 → A5 → List (Nat × Value)) (I : A1 → A2 → A3 → A4 → A5 → Prop) (μ : A1 → A2 → A3 → A4 → A5 → Nat) (hs : ∀ (a1 : A1) (a2 : A2) (a3 : A3) (a4 : A4) (a5 : A5), I a1 a2 a3 a4 a5 → (∀ (b1 : A1) (b2 : A2) (b3 : A3) (b4 : A4) (b5 : A5), I b1 b2 b3 b4 b5 → μ b1 b2 b3 b4 b5 < μ a1 a2 a3 a4 a5 → VV dsc X pc (LL b1 b2 b3 b4 b5) [] σ) → VV dsc X pc (LL a1 a2 a3 a4 a5) [] σ) (a1 : A1) (a2 : A2) (a3 : A3) (a4 : A4) (a5 : A5) (h : I a1 a2 a3 a4 a5) : VV dsc X pc (LL a1 a2 a3 a4 a5) [] σ :=
  v_loop (ι := A1 × A2 × A3 × A4 × A5) (fun i => LL i.1 i.2.1 i.2.2.1 i.2.2.2.1 i.2.2.2.2) (fun i z => z = σ ∧ I i.1 i.2.1 i.2.2.1 i.2.2.2.1 i.2.2.2.2) (fun i _ => μ i.1 i.2.1 i.2.2.1 i.2.2.2.1 i.2.2.2.2) (fun i z hI ih => by
    obtain ⟨e, hI⟩ := hI
    subst e
    exact hs i.1 i.2.1 i.2.2.1 i.2.2.2.1 i.2.2.2.2 hI (fun b1 b2 b3 b4 b5 hI' hm => ih (b1, b2, b3, b4, b5) _ ⟨rfl, hI'⟩ hm)) (a1, a2, a3, a4, a5) σ ⟨rfl, h⟩
theorem v_loop6 {A1 A2 A3 A4 A5 A6 : Type} (LL : A1 → A2 → A3 → A4 → A5 → A6 → List (Nat × Value)) (I : A1 → A2 → A3 → A4 → A5 → A6 → MS → Prop) (μ : A1 → A2 → A3 → A4 → A5 → A6 → MS → Nat) (hs : ∀ (a1 : A1) (a2 : A2) (a3 : A3) (a4 : A4) (a5 : A5) (a6 : A6) (σ : MS), I a1 a2 a3 a4 a5 a6 σ → (∀ (b1 : A1) (b2 : A2) (b3 : A3) (b4 : A4) (b5 : A5) (b6 : A6) (σ' : MS), I b1 b2 b3 b4 b5 b6 σ' → μ b1 b2 b3 b4 b5 b6 σ' < μ a1 a2 a3 a4 a5 a6 σ → VV dsc X pc (LL b1 b2 b3 b4 b5 b6) [] σ') → VV dsc X pc (LL a1 a2 a3 a4 a5 a6) [] σ) (a1 : A1) (a2 : A2) (a3 : A3) (a4 : A4) (a5 : A5) (a6 : A6) (σ : MS) (h : I a1 a2 a3 a4 a5 a6 σ) : VV dsc X pc (LL a1 a2 a3 a4 a5 a6) [] σ :=
  v_loop (ι := A1 × A2 × A3 × A4 × A5 × A6) (fun i => LL i.1 i.2.1 i.2.2.1 i.2.2.2.1 i.2.2.2.2.1 i.2.2.2.2.2) (fun i => I i.1 i.2.1 i.2.2.1 i.2.2.2.1 i.2.2.2.2.1 i.2.2.2.2.2) (fun i => μ i.1 i.2.1 i.2.2.1 i.2.2.2.1 i.2.2.2.2.1 i.2.2.2.2.2) (fun i σ hI ih => hs i.1 i.2.1 i.2.2.1 i.2.2.2.1 i.2.2.2.2.1 i.2.2.2.2.2 σ hI (fun b1 b2 b3 b4 b5 b6 σ' hI' hm => ih (b1, b2, b3, b4, b5, b6) σ' hI' hm)) (a1, a2, a3, a4, a5, a6) σ h
theorem v_ploop6 {A1 A2 A3 A4 A5 A6 : Type} (σ : MS) (LL : A1 → A2 → A3 → A4 → A5 → A6 → List (Nat × Value)) (I : A1 → A2 → A3 → A4 → A5 → A6 → Prop) (μ : A1 → A2 → A3 → A4 → A5 → A6 → Nat) (hs : ∀ (a1 : A1) (a2 : A2) (a3 : A3) (a4 : A4) (a5 : A5) (a6 : A6), I a1 a2 a3 a4 a5 a6 → (∀ (b1 : A1) (b2 : A2) (b3 : A3) (b4 : A4) (b5 : A5) (b6 : A6), I b1 b2 b3 b4 b5 b6 → μ b1 b2 b3 b4 b5 b6 < μ a1 a2 a3 a4 a5 a6 → VV dsc X pc (LL b1 b2 b3 b4 b5 b6) [] σ) → VV dsc X pc (LL a1 a2 a3 a4 a5 a6) [] σ) (a1 : A1) (a2 : A2) (a3 : A3) (a4 : A4) (a5 : A5) (a6 : A6) (h : I a1 a2 a3 a4 a5 a6) : VV dsc X pc (LL a1 a2 a3 a4 a5 a6) [] σ :=
  v_loop (ι := A1 × A2 × A3 × A4 × A5 × A6) (fun i => LL i.1 i.2.1 i.2.2.1 i.2.2.2.1 i.2.2.2.2.1 i.2.2.2.2.2) (fun i z => z = σ ∧ I i.1 i.2.1 i.2.2.1 i.2.2.2.1 i.2.2.2.2.1 i.2.2.2.2.2) (fun i _ => μ i.1 i.2.1 i.2.2.1 i.2.2.2.1 i.2.2.2.2.1 i.2.2.2.2.2) (fun i z hI ih => by
    obtain ⟨e, hI⟩ := hI
    subst e
    exact hs i.1 i.2.1 i.2.2.1 i.2.2.2.1 i.2.2.2.2.1 i.2.2.2.2.2 hI (fun b1 b2 b3 b4 b5 b6 hI' hm => ih (b1, b2, b3, b4, b5, b6) _ ⟨rfl, hI'⟩ hm)) (a1, a2, a3, a4, a5, a6) σ ⟨rfl, h⟩
end RC
section RN
variable {dsc : List CD} {X : XC} {cc : ByteArray} {own : String} {nL lv pc : Nat} {L L' : List (Nat × Value)} {st : List Value} {σ : MS}
theorem v_nameI {e : Int} (h : ∀ x, x = e → VV dsc X pc L (.int (iI x) :: st) σ) : VV dsc X pc L (.int (iI e) :: st) σ := h e rfl
theorem v_nameL {e : Int64} (h : ∀ x, x = e → VV dsc X pc L (.long x :: st) σ) : VV dsc X pc L (.long e :: st) σ := h e rfl
theorem v_nameS (h : ∀ z, z = σ → VV dsc X pc L st z) : VV dsc X pc L st σ := h σ rfl
theorem v_wt (h : (∀ k j, Rng (gI σ k j)) → VV dsc X pc L st σ) : VV dsc X pc L st σ := fun H locs ls hP hS hL => h hP.2.1 H locs ls hP hS hL
theorem v_iincN (E : EV dsc X cc own nL lv) {i : Nat} {n x : Int} (hd : decode cc pc = .ok (.iinc i n, 3)) (q : Nat) (hl : L[q]? = some (i, .int (iI x))) (hn : i < nL) (Lf : Int → List (Nat × Value)) (hf : ∀ y, (i, Value.int (iI y)) :: L.filter (fun q => !(q.1 == i) && !(q.1 + 1 == i && q.2.category == 2)) = Lf y) (h : ∀ y, y = x + n → VV dsc X (pc + 3) (Lf y) st σ) : VV dsc X pc L st σ :=
  v_iinc E hd q hl hn (hf _) (h _ rfl)
theorem Rng_dv {a b : Int} (ha : 0 ≤ a ∧ a < 2147483648) (hb : 0 < b ∧ b < 2147483648) : Rng (a / b) :=
  ⟨by have := Int.ediv_nonneg ha.1 (Int.le_of_lt hb.1); omega, by have := Int.ediv_le_self b ha.1; omega⟩
theorem Rng_rm {a b : Int} (ha : 0 ≤ a ∧ a < 2147483648) (hb : 0 < b ∧ b < 2147483648) : Rng (a % b) :=
  ⟨by have := Int.emod_nonneg a (b := b) (by omega); omega, by have := Int.emod_lt_of_pos a hb.1; omega⟩
theorem Rng_c (a : Int) : Rng (a % 65536) := ⟨by omega, by omega⟩
theorem Rng_b {a n : Int} (h : 0 ≤ a ∧ a < n) (hn : n ≤ 2147483648) : Rng a := ⟨by omega, by omega⟩
theorem v_lookup (E : EV dsc X cc own nL lv) {dflt : Int} {ps : Array (Int × Int)} {len : Nat} {x : Int} {off : Int} (hd : decode cc pc = .ok (.lookupswitch dflt ps, len)) (hp : (ps.toList.zip (ps.toList.drop 1)).all (fun (a, next) => a.1 < next.1) = true) (hx : Rng x) (tgt : Nat) (ho : Op.lookupswitch.offset ps.toList dflt x = off) (ht : (pc : Int) + off = (tgt : Int)) (h : VV dsc X tgt L st σ) : VV dsc X pc L (.int (iI x) :: st) σ :=
  fun H locs ls hP hS hL => lv_lookup E.1 E.2.1 hd hp (by rw [iI_toInt hx]; exact ho) ht (h H locs ls hP hS hL)
theorem v_tableIn (E : EV dsc X cc own nL lv) {dflt lo hi : Int} {offs : Array Int} {len : Nat} {x : Int} {off : Int} (hd : decode cc pc = .ok (.tableswitch dflt lo hi offs, len)) (hx : Rng x) {v : Int} (hv : x = v) (h1 : ¬ v < lo) (h2 : ¬ hi < v) (ho : offs[(v - lo).toNat]? = some off) (tgt : Nat) (ht : (pc : Int) + off = (tgt : Int)) (h : VV dsc X tgt L st σ) : VV dsc X pc L (.int (iI x) :: st) σ := by
  subst hv
  exact fun H locs ls hP hS hL => lv_tableIn E.1 E.2.1 hd (by rw [iI_toInt hx]; exact h1) (by rw [iI_toInt hx]; exact h2) (by rw [iI_toInt hx]; exact ho) ht (h H locs ls hP hS hL)
theorem v_tableOut (E : EV dsc X cc own nL lv) {dflt lo hi : Int} {offs : Array Int} {len : Nat} {x : Int} (hd : decode cc pc = .ok (.tableswitch dflt lo hi offs, len)) (hx : Rng x) (h1 : x < lo ∨ hi < x) (tgt : Nat) (ht : (pc : Int) + dflt = (tgt : Int)) (h : VV dsc X tgt L st σ) : VV dsc X pc L (.int (iI x) :: st) σ :=
  fun H locs ls hP hS hL => lv_tableOut E.1 E.2.1 hd (by rw [iI_toInt hx]; exact h1) ht (h H locs ls hP hS hL)
theorem Rng_min {a b : Int} (ha : Rng a) (hb : Rng b) : Rng (min a b) := ⟨by omega, by omega⟩
theorem Rng_max {a b : Int} (ha : Rng a) (hb : Rng b) : Rng (max a b) := ⟨by omega, by omega⟩
def lmax (a b : Int64) : Int64 := if b < a then a else b
theorem v_mmin (E : EV dsc X cc own nL lv) {a b : Int} {ix : Nat} (h1 : Cond.methodLink own ix Lib.Math.min.name ∈ TB) (h2 : Cond.static Lib.Math.min.name ∈ TB) (h3 : Cond.initialized "java/lang/Math" ∈ TB) (h4 : Cond.code Lib.Math.min.name Lib.Math.min.code 2 (some .int) ∈ TB) (ha : Rng a) (hb : Rng b) (hd : decode cc pc = .ok (.invokestatic ix, 3)) (hcat : (st.map fun v => v.category).sum ≤ 8) (hlv : 1 ≤ lv) (h : VV dsc X (pc + 3) L (.int (iI (min a b)) :: st) σ) : VV dsc X pc L (.int (iI b) :: .int (iI a) :: st) σ := by
  intro H locs ls hP hS hL
  refine va_mmin E.1 E.2.1 (E.2.2.1.trans (hL.1.trans E.2.2.2.1).symm) E.2.2.2.2.1 (E.2.2.2.2.2.1 _ h1) (E.2.2.2.2.2.1 _ h2) (E.2.2.2.2.2.1 _ h3) (E.2.2.2.2.2.1 _ h4) (Nat.le_trans hlv E.2.2.2.2.2.2.2.2.2.1) (by have := E.2.2.2.2.2.2.2.2.2.2.1; omega) E.2.2.2.2.2.2.2.2.2.2.2.2.1 E.2.2.2.2.2.2.2.2.2.2.2.2.2 hd ?_
  have e : (if iI b < iI a then iI b else iI a) = iI (min a b) := by
    by_cases q : b < a
    · rw [if_pos ((iI_lt hb ha).mpr q), Int.min_eq_right (by omega)]
    · rw [if_neg (fun z => q ((iI_lt hb ha).mp z)), Int.min_eq_left (by omega)]
  rw [e]
  exact h H locs ls hP hS hL
theorem v_mmax (E : EV dsc X cc own nL lv) {a b : Int} {ix : Nat} (h1 : Cond.methodLink own ix Lib.Math.max.name ∈ TB) (h2 : Cond.static Lib.Math.max.name ∈ TB) (h3 : Cond.initialized "java/lang/Math" ∈ TB) (h4 : Cond.code Lib.Math.max.name Lib.Math.max.code 2 (some .int) ∈ TB) (ha : Rng a) (hb : Rng b) (hd : decode cc pc = .ok (.invokestatic ix, 3)) (hcat : (st.map fun v => v.category).sum ≤ 8) (hlv : 1 ≤ lv) (h : VV dsc X (pc + 3) L (.int (iI (max a b)) :: st) σ) : VV dsc X pc L (.int (iI b) :: .int (iI a) :: st) σ := by
  intro H locs ls hP hS hL
  refine va_mmax E.1 E.2.1 (E.2.2.1.trans (hL.1.trans E.2.2.2.1).symm) E.2.2.2.2.1 (E.2.2.2.2.2.1 _ h1) (E.2.2.2.2.2.1 _ h2) (E.2.2.2.2.2.1 _ h3) (E.2.2.2.2.2.1 _ h4) (Nat.le_trans hlv E.2.2.2.2.2.2.2.2.2.1) (by have := E.2.2.2.2.2.2.2.2.2.2.1; omega) E.2.2.2.2.2.2.2.2.2.2.2.2.1 E.2.2.2.2.2.2.2.2.2.2.2.2.2 hd ?_
  have e : (if iI a < iI b then iI b else iI a) = iI (max a b) := by
    by_cases q : a < b
    · rw [if_pos ((iI_lt ha hb).mpr q), Int.max_eq_right (by omega)]
    · rw [if_neg (fun z => q ((iI_lt ha hb).mp z)), Int.max_eq_left (by omega)]
  rw [e]
  exact h H locs ls hP hS hL
theorem v_mmaxL (E : EV dsc X cc own nL lv) {a b : Int64} {ix : Nat} (h1 : Cond.methodLink own ix Lib.MathLoose.max_long.x ∈ TB) (h2 : Cond.static Lib.MathLoose.max_long.x ∈ TB) (h3 : Cond.initialized "java/lang/Math" ∈ TB) (h4 : Cond.code Lib.MathLoose.max_long.x Lib.MathLoose.max_long.code 4 (some .long) ∈ TB) (hd : decode cc pc = .ok (.invokestatic ix, 3)) (hcat : (st.map fun v => v.category).sum ≤ 8) (hlv : 1 ≤ lv) (h : VV dsc X (pc + 3) L (.long (lmax a b) :: st) σ) : VV dsc X pc L (.long b :: .long a :: st) σ := by
  intro H locs ls hP hS hL
  exact va_mmax_long E.1 E.2.1 (E.2.2.1.trans (hL.1.trans E.2.2.2.1).symm) E.2.2.2.2.1 (E.2.2.2.2.2.1 _ h1) (E.2.2.2.2.2.1 _ h2) (E.2.2.2.2.2.1 _ h3) (E.2.2.2.2.2.1 _ h4) (Nat.le_trans hlv E.2.2.2.2.2.2.2.2.2.1) (by have := E.2.2.2.2.2.2.2.2.2.2.1; omega) E.2.2.2.2.2.2.2.2.2.2.2.2.1 E.2.2.2.2.2.2.2.2.2.2.2.2.2 hd (h H locs ls hP hS hL)
variable {y : MethodName} {bytes : ByteArray} {maxL n lvc ix b ci N : Nat} {ret : Option FieldType} {As : (Nat → Nat) → List Value} {fs : List (Nat × Nat)} {T : u_T} {stk : List Value}
theorem v_callVIp (E : EV dsc X cc own nL lv) (md : MDv y bytes maxL ret n) {Q : Int → Prop} (hM : MT dsc y bytes maxL ret lvc (fun ad => .ref (ad b) :: As ad) σ (po_I dsc (fun r z => z = σ ∧ Q r))) (hb : dsc[b]? = some (.inr (ci, fs))) (hcl : CLS[ci]? = some (y.cls, T, N)) (hlv : lvc + 1 ≤ lv ∧ 8 + (maxL + 11) + 40 * lvc ≤ 40 * lv) (hl : Cond.methodLink own ix y ∈ TB) (hd : decode cc pc = .ok (.invokevirtual ix, 3)) (hn : ∀ ad, (As ad).length = n) (hst : stk = (As (adX X)).reverse ++ .ref (adX X b) :: st) (hcat : (st.map fun v => v.category).sum ≤ 8) (h : ∀ r, Rng r → Q r → VV dsc X (pc + 3) L (.int (iI r) :: st) σ) : VV dsc X pc L stk σ :=
  v_callVI E md hM hb hcl hlv hl hd hn hst hcat (fun r z hr hq => by
    obtain ⟨e, hq⟩ := hq
    subst e
    exact h r hr hq)
theorem v_callVIpz (E : EV dsc X cc own nL lv) (md : MDv y bytes maxL ret n) {Q : Int → Prop} (hM : MT dsc y bytes maxL ret lvc (fun ad => .ref (ad b) :: As ad) σ (po_I dsc (fun r z => (r = 0 ∨ r = 1) ∧ z = σ ∧ Q r))) (hb : dsc[b]? = some (.inr (ci, fs))) (hcl : CLS[ci]? = some (y.cls, T, N)) (hlv : lvc + 1 ≤ lv ∧ 8 + (maxL + 11) + 40 * lvc ≤ 40 * lv) (hl : Cond.methodLink own ix y ∈ TB) (hd : decode cc pc = .ok (.invokevirtual ix, 3)) (hn : ∀ ad, (As ad).length = n) (hst : stk = (As (adX X)).reverse ++ .ref (adX X b) :: st) (hcat : (st.map fun v => v.category).sum ≤ 8) (h : ∀ r, Rng r → (r = 0 ∨ r = 1) → Q r → VV dsc X (pc + 3) L (.int (iI r) :: st) σ) : VV dsc X pc L stk σ :=
  v_callVI E md hM hb hcl hlv hl hd hn hst hcat (fun r z hr hq => by
    obtain ⟨hz, e, hq⟩ := hq
    subst e
    exact h r hr hz hq)
theorem v_callVLp (E : EV dsc X cc own nL lv) (md : MDv y bytes maxL ret n) {Q : Int64 → Prop} (hM : MT dsc y bytes maxL ret lvc (fun ad => .ref (ad b) :: As ad) σ (po_L dsc (fun r z => z = σ ∧ Q r))) (hb : dsc[b]? = some (.inr (ci, fs))) (hcl : CLS[ci]? = some (y.cls, T, N)) (hlv : lvc + 1 ≤ lv ∧ 8 + (maxL + 11) + 40 * lvc ≤ 40 * lv) (hl : Cond.methodLink own ix y ∈ TB) (hd : decode cc pc = .ok (.invokevirtual ix, 3)) (hn : ∀ ad, (As ad).length = n) (hst : stk = (As (adX X)).reverse ++ .ref (adX X b) :: st) (hcat : (st.map fun v => v.category).sum ≤ 8) (h : ∀ r, Q r → VV dsc X (pc + 3) L (.long r :: st) σ) : VV dsc X pc L stk σ :=
  v_callVL E md hM hb hcl hlv hl hd hn hst hcat (fun r z hq => by
    obtain ⟨e, hq⟩ := hq
    subst e
    exact h r hq)
theorem v_callSIp (E : EV dsc X cc own nL lv) (md : MDs y bytes maxL ret n) {Q : Int → Prop} (hM : MT dsc y bytes maxL ret lvc As σ (po_I dsc (fun r z => z = σ ∧ Q r))) (hlv : lvc + 1 ≤ lv ∧ 8 + (maxL + 11) + 40 * lvc ≤ 40 * lv) (hl : Cond.methodLink own ix y ∈ TB) (hd : decode cc pc = .ok (.invokestatic ix, 3)) (hn : ∀ ad, (As ad).length = n) (hst : stk = (As (adX X)).reverse ++ st) (hcat : (st.map fun v => v.category).sum ≤ 8) (h : ∀ r, Rng r → Q r → VV dsc X (pc + 3) L (.int (iI r) :: st) σ) : VV dsc X pc L stk σ :=
  v_callSI E md hM hlv hl hd hn hst hcat (fun r z hr hq => by
    obtain ⟨e, hq⟩ := hq
    subst e
    exact h r hr hq)
theorem v_callSIpz (E : EV dsc X cc own nL lv) (md : MDs y bytes maxL ret n) {Q : Int → Prop} (hM : MT dsc y bytes maxL ret lvc As σ (po_I dsc (fun r z => (r = 0 ∨ r = 1) ∧ z = σ ∧ Q r))) (hlv : lvc + 1 ≤ lv ∧ 8 + (maxL + 11) + 40 * lvc ≤ 40 * lv) (hl : Cond.methodLink own ix y ∈ TB) (hd : decode cc pc = .ok (.invokestatic ix, 3)) (hn : ∀ ad, (As ad).length = n) (hst : stk = (As (adX X)).reverse ++ st) (hcat : (st.map fun v => v.category).sum ≤ 8) (h : ∀ r, Rng r → (r = 0 ∨ r = 1) → Q r → VV dsc X (pc + 3) L (.int (iI r) :: st) σ) : VV dsc X pc L stk σ :=
  v_callSI E md hM hlv hl hd hn hst hcat (fun r z hr hq => by
    obtain ⟨hz, e, hq⟩ := hq
    subst e
    exact h r hr hz hq)
theorem v_callSLp (E : EV dsc X cc own nL lv) (md : MDs y bytes maxL ret n) {Q : Int64 → Prop} (hM : MT dsc y bytes maxL ret lvc As σ (po_L dsc (fun r z => z = σ ∧ Q r))) (hlv : lvc + 1 ≤ lv ∧ 8 + (maxL + 11) + 40 * lvc ≤ 40 * lv) (hl : Cond.methodLink own ix y ∈ TB) (hd : decode cc pc = .ok (.invokestatic ix, 3)) (hn : ∀ ad, (As ad).length = n) (hst : stk = (As (adX X)).reverse ++ st) (hcat : (st.map fun v => v.category).sum ≤ 8) (h : ∀ r, Q r → VV dsc X (pc + 3) L (.long r :: st) σ) : VV dsc X pc L stk σ :=
  v_callSL E md hM hlv hl hd hn hst hcat (fun r z hq => by
    obtain ⟨e, hq⟩ := hq
    subst e
    exact h r hq)
theorem v_callNIp (E : EV dsc X cc own nL lv) (md : MDs y bytes maxL ret n) {Q : Int → Prop} (hM : MT dsc y bytes maxL ret lvc As σ (po_I dsc (fun r z => z = σ ∧ Q r))) (hlv : lvc + 1 ≤ lv ∧ 8 + (maxL + 11) + 40 * lvc ≤ 40 * lv) {host : String} (hl : va_Nw (.methodLinkNest own ix y host) X.1.2.2.2.2.1) (hd : decode cc pc = .ok (.invokestatic ix, 3)) (hn : ∀ ad, (As ad).length = n) (hst : stk = (As (adX X)).reverse ++ st) (hcat : (st.map fun v => v.category).sum ≤ 8) (h : ∀ r, Rng r → Q r → VV dsc X (pc + 3) L (.int (iI r) :: st) σ) : VV dsc X pc L stk σ :=
  v_callNI E md hM hlv hl hd hn hst hcat (fun r z hr hq => by
    obtain ⟨e, hq⟩ := hq
    subst e
    exact h r hr hq)
theorem v_callNIpz (E : EV dsc X cc own nL lv) (md : MDs y bytes maxL ret n) {Q : Int → Prop} (hM : MT dsc y bytes maxL ret lvc As σ (po_I dsc (fun r z => (r = 0 ∨ r = 1) ∧ z = σ ∧ Q r))) (hlv : lvc + 1 ≤ lv ∧ 8 + (maxL + 11) + 40 * lvc ≤ 40 * lv) {host : String} (hl : va_Nw (.methodLinkNest own ix y host) X.1.2.2.2.2.1) (hd : decode cc pc = .ok (.invokestatic ix, 3)) (hn : ∀ ad, (As ad).length = n) (hst : stk = (As (adX X)).reverse ++ st) (hcat : (st.map fun v => v.category).sum ≤ 8) (h : ∀ r, Rng r → (r = 0 ∨ r = 1) → Q r → VV dsc X (pc + 3) L (.int (iI r) :: st) σ) : VV dsc X pc L stk σ :=
  v_callNI E md hM hlv hl hd hn hst hcat (fun r z hr hq => by
    obtain ⟨hz, e, hq⟩ := hq
    subst e
    exact h r hr hz hq)
theorem v_callNLp (E : EV dsc X cc own nL lv) (md : MDs y bytes maxL ret n) {Q : Int64 → Prop} (hM : MT dsc y bytes maxL ret lvc As σ (po_L dsc (fun r z => z = σ ∧ Q r))) (hlv : lvc + 1 ≤ lv ∧ 8 + (maxL + 11) + 40 * lvc ≤ 40 * lv) {host : String} (hl : va_Nw (.methodLinkNest own ix y host) X.1.2.2.2.2.1) (hd : decode cc pc = .ok (.invokestatic ix, 3)) (hn : ∀ ad, (As ad).length = n) (hst : stk = (As (adX X)).reverse ++ st) (hcat : (st.map fun v => v.category).sum ≤ 8) (h : ∀ r, Q r → VV dsc X (pc + 3) L (.long r :: st) σ) : VV dsc X pc L stk σ :=
  v_callNL E md hM hlv hl hd hn hst hcat (fun r z hq => by
    obtain ⟨e, hq⟩ := hq
    subst e
    exact h r hq)
end RN
