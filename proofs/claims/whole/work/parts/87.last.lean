/-! ===== a constructor called upon the newest cell ===== -/
theorem va_nd_of : ∀ {l : List Nat}, l.Nodup → va_nd l = true
  | [], _ => rfl
  | a :: l, h => by
    rw [List.nodup_cons] at h
    simp only [va_nd, Bool.and_eq_true, decide_eq_true_eq]
    exact ⟨h.1, va_nd_of h.2⟩
theorem last_C (wr : va_W) (c : Nat × va_E) : ([wr.length] : List Nat).map (fun i => (wr ++ [c])[i]?) = [c].map some := by simp
theorem last_R (wr : va_W) (c : Nat × va_E) : (List.range wr.length).map (fun i => (wr ++ [c])[i]?) = wr.map some := by
  apply List.ext_getElem?
  intro i
  rw [List.getElem?_map, List.getElem?_map]
  by_cases hi : i < wr.length
  · rw [List.getElem?_range hi, List.getElem?_eq_getElem hi]
    show some ((wr ++ [c])[i]?) = _
    rw [List.getElem?_append_left hi, List.getElem?_eq_getElem hi]
    rfl
  · rw [List.getElem?_eq_none (by simp; omega), List.getElem?_eq_none (by omega)]
    rfl
theorem last_n (n : Nat) : va_nd (List.range n) = true := va_nd_of List.nodup_range
theorem last_d (n : Nat) : ∀ i ∈ List.range n, i ∉ ([n] : List Nat) := fun i hi => by
  have := List.mem_range.mp hi
  simp
  omega
section GL
variable {A : Nat → Prop} {X : XC} {cc : ByteArray} {own : String} {nL pc a b : Nat} {rm : Room} {L : List (Nat × Value)} {st stk : List Value} {wr : va_W}
variable {y : MethodName} {bytes : ByteArray} {maxL n ix : Nat} {rmc : Room} {As : List Value} {x : Nat} {e : va_E} {Ex : (Nat → Prop) → State → Prop} {w1 : WDt → (Nat → Nat) → va_W → Prop}
theorem n_initL (E : NE X cc own nL rm) (hA : NA A X) (md : MDi y bytes maxL n) (hy : y.name = "<init>") (hM : CTR y bytes maxL rmc (.ref x :: As) [(x, e)] Ex w1)
    (hb : ∀ (A : Nat → Prop) (ar : Array Value) (U : State) (g : JFrame) (mk : MethodId), Ex A U → Ex A (U.calling g mk ar))
    (hx : ∀ (A' : Nat → Prop) (U : State), (∀ q, A' q → A q) → X.1.2.2.2.2.1.WarmedH U.vm → (∀ q : Nat, q < X.1.2.2.2.2.1.heap.size → ¬ A q → U.heap[q]? = X.1.2.2.2.2.1.heap[q]?) → Ex A' U)
    (hl : Cond.methodLink own ix y ∈ TB) (hd : decode cc pc = .ok (.invokespecial ix, 3)) (hn : As.length = n) (hlv : rmc.frames + 1 ≤ rm.frames ∧ 8 + (maxL + 11) + rmc.locals ≤ rm.locals) (hcat : (st.map fun v => v.category).sum ≤ 8) (hcs : a + rmc.cells ≤ rm.cells ∧ b + rmc.slots ≤ rm.slots) (hst : stk = As.reverse ++ .ref x :: st)
    (h : ∀ u w', w1 X.2.2.1 u w' → NV A X (pc + 3) L st (wr ++ w') (a + rmc.cells) (b + rmc.slots)) : NV A X pc L stk (wr ++ [(x, e)]) a b :=
  n_init E hA md hy hM hb hx hl hd hn hlv hcat hcs [wr.length] (List.range wr.length) (last_C wr (x, e)) (last_R wr (x, e)) (by rfl) (last_n _) (last_d _) hst h
theorem n_initNL (E : NE X cc own nL rm) (hA : NA A X) (md : MDi y bytes maxL n) (hy : y.name = "<init>") (hM : CTR y bytes maxL rmc (.ref x :: As) [(x, e)] Ex w1)
    (hb : ∀ (A : Nat → Prop) (ar : Array Value) (U : State) (g : JFrame) (mk : MethodId), Ex A U → Ex A (U.calling g mk ar))
    (hx : ∀ (A' : Nat → Prop) (U : State), (∀ q, A' q → A q) → X.1.2.2.2.2.1.WarmedH U.vm → (∀ q : Nat, q < X.1.2.2.2.2.1.heap.size → ¬ A q → U.heap[q]? = X.1.2.2.2.2.1.heap[q]?) → Ex A' U)
    {host : String} (hl : va_Nw (.methodLinkNest own ix y host) X.1.2.2.2.2.1) (hd : decode cc pc = .ok (.invokespecial ix, 3)) (hn : As.length = n) (hlv : rmc.frames + 1 ≤ rm.frames ∧ 8 + (maxL + 11) + rmc.locals ≤ rm.locals) (hcat : (st.map fun v => v.category).sum ≤ 8) (hcs : a + rmc.cells ≤ rm.cells ∧ b + rmc.slots ≤ rm.slots) (hst : stk = As.reverse ++ .ref x :: st)
    (h : ∀ u w', w1 X.2.2.1 u w' → NV A X (pc + 3) L st (wr ++ w') (a + rmc.cells) (b + rmc.slots)) : NV A X pc L stk (wr ++ [(x, e)]) a b :=
  n_initN E hA md hy hM hb hx hl hd hn hlv hcat hcs [wr.length] (List.range wr.length) (last_C wr (x, e)) (last_R wr (x, e)) (by rfl) (last_n _) (last_d _) hst h
end GL
