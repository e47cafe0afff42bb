/-! ===== calls over a held world that lies within a greater one ===== -/
def s0C : MS := (fun k j => if k = 25 then (if j = 9 then -4 else 0) else if k = 17 then (if j = 4 then -4 else 0) else 0, fun k j => if k = 31 then (if j = 2 then 1 else 0) else 0, fun k j => if k = 0 then (if j = 1 then 7 else 1) else if k = 22 then (if 0 ≤ j ∧ j < 8 then 40 + 2 * j.toNat else 40) else if k = 24 then (if j = 1 then 58 else 56) else 1)
theorem mid_at {wf wm wr : va_W} {k : Nat} {q : Nat × va_E} (h : wm[k]? = some q) : (wf ++ (wm ++ wr))[wf.length + k]? = some q := by
  have hl : k < wm.length := (List.getElem?_eq_some_iff.mp h).1
  rw [List.getElem?_append_right (by omega), show wf.length + k - wf.length = k by omega, List.getElem?_append_left hl]
  exact h
theorem lft_at {wf wm : va_W} {k : Nat} {q : Nat × va_E} (h : wf[k]? = some q) : (wf ++ wm)[k]? = some q := by
  have hl : k < wf.length := (List.getElem?_eq_some_iff.mp h).1
  rw [List.getElem?_append_left hl]
  exact h
theorem rgt_at {wf wm wr : va_W} {k : Nat} {q : Nat × va_E} (h : wr[k]? = some q) : (wf ++ (wm ++ wr))[wf.length + (wm.length + k)]? = some q := by
  rw [List.getElem?_append_right (by omega), show wf.length + (wm.length + k) - wf.length = wm.length + k by omega, List.getElem?_append_right (by omega), show wm.length + k - wm.length = k by omega]
  exact h
theorem va_D_fst {A : Nat → Prop} {ws ws' : va_W} (h : va_D A ws) (he : ws'.map Prod.fst = ws.map Prod.fst) : va_D A ws' := by
  have key : ∀ (i : Nat) (p : Nat × va_E), ws'[i]? = some p → ∃ p' : Nat × va_E, ws[i]? = some p' ∧ p'.1 = p.1 := by
    intro i p hp
    have h1 : (ws'.map Prod.fst)[i]? = some p.1 := by rw [List.getElem?_map, hp]; rfl
    rw [he, List.getElem?_map] at h1
    cases hi : ws[i]? with
    | none => rw [hi] at h1; cases h1
    | some p' => rw [hi] at h1; exact ⟨p', rfl, Option.some.inj h1⟩
  refine ⟨fun i j p q hp hq e => ?_, fun k q hq => ?_⟩
  · obtain ⟨p', h1, h2⟩ := key i p hp
    obtain ⟨q', h3, h4⟩ := key j q hq
    exact h.1 i j p' q' h1 h3 (by rw [h2, h4]; exact e)
  · obtain ⟨q', h1, h2⟩ := key k q hq
    rw [← h2]
    exact h.2 k q' h1
theorem wl_fst (dsc : List CD) (w : WDt) (σ : MS) : (wl dsc w σ).map Prod.fst = (List.range dsc.length).map w.2.1 := by
  apply List.ext_getElem?
  intro i
  unfold wl
  rw [List.getElem?_map, List.getElem?_map, List.getElem?_mapIdx]
  by_cases hi : i < dsc.length
  · rw [List.getElem?_range hi, List.getElem?_eq_getElem hi]
    rfl
  · rw [List.getElem?_eq_none (by omega), List.getElem?_eq_none (by simp; omega)]
    rfl
theorem wl_len (dsc : List CD) (w : WDt) (σ : MS) : (wl dsc w σ).length = dsc.length := by unfold wl; rw [List.length_mapIdx]
theorem SZ.narrow {A B : Nat → Prop} {U : State} {H : Heap} (h : SZ A U H) (hAB : ∀ q, B q → A q) : SZ B U H := by
  obtain ⟨h1, h2, t, h3, h4⟩ := h
  exact ⟨h1, h2, t, h3.narrow hAB, h4.narrow hAB⟩
theorem mid_pack {A : Nat → Prop} {D : va_G} {dsc : List CD} {w : WDt} {σ : MS} {wf wr : va_W} {H : Heap} (hP : va_P D CLS (wf ++ (wl dsc w σ ++ wr)) H) (hD : va_D A (wf ++ (wl dsc w σ ++ wr))) :
    va_P D CLS (wl dsc w σ) H ∧ wInj dsc w ∧ (∀ q, wA dsc w q → A q) ∧ ∀ (H1 : Heap) (σ' : MS), (∀ q : Nat, q < H.size → ¬ wA dsc w q → H1[q]? = H[q]?) → va_P D CLS (wl dsc w σ') H1 → va_P D CLS (wf ++ (wl dsc w σ' ++ wr)) H1 ∧ va_D A (wf ++ (wl dsc w σ' ++ wr)) := by
  have get : ∀ k, k < dsc.length → ∃ e, (wl dsc w σ)[k]? = some (w.2.1 k, e) := fun k hk => ⟨_, wl_get w σ (List.getElem?_eq_getElem hk)⟩
  refine ⟨fun k q hq => hP _ q (mid_at hq), fun i j hi hj e => ?_, fun q hq => ?_, fun H1 σ' hk hP1 => ⟨?_, ?_⟩⟩
  · obtain ⟨e1, h1⟩ := get i hi
    obtain ⟨e2, h2⟩ := get j hj
    have := hD.1 _ _ _ _ (mid_at (wf := wf) (wr := wr) h1) (mid_at (wf := wf) (wr := wr) h2) e
    omega
  · obtain ⟨k, hk, rfl⟩ := hq
    obtain ⟨e1, h1⟩ := get k hk
    exact hD.2 _ _ (mid_at (wf := wf) (wr := wr) h1)
  · refine va_P.app (fun k q hq => ?_) (va_P.app hP1 (fun k q hq => ?_))
    · have h0 := hP k q (lft_at hq)
      refine h0.kept (hk q.1 h0.lt ?_)
      rintro ⟨j, hj, e⟩
      obtain ⟨e1, h1⟩ := get j hj
      have z := hD.1 _ _ _ _ (lft_at (wm := wl dsc w σ ++ wr) hq) (mid_at (wf := wf) (wr := wr) h1) e
      have hl : k < wf.length := (List.getElem?_eq_some_iff.mp hq).1
      omega
    · have h0 := hP _ q (rgt_at (wf := wf) (wm := wl dsc w σ) hq)
      refine h0.kept (hk q.1 h0.lt ?_)
      rintro ⟨j, hj, e⟩
      obtain ⟨e1, h1⟩ := get j hj
      have z := hD.1 _ _ _ _ (rgt_at (wf := wf) (wm := wl dsc w σ) hq) (mid_at (wf := wf) (wr := wr) h1) e
      have hl : j < (wl dsc w σ).length := (List.getElem?_eq_some_iff.mp h1).1
      omega
  · refine va_D_fst hD ?_
    rw [List.map_append, List.map_append, List.map_append, List.map_append, wl_fst dsc w σ, wl_fst dsc w σ']
section GM
variable {A : Nat → Prop} {X : XC} {cc : ByteArray} {own : String} {nL pc a b : Nat} {rm : Room} {L : List (Nat × Value)} {st stk : List Value} {ws wf wr : va_W}
variable {dsc : List CD} {ad : Nat → Nat} {σ : MS} {y : MethodName} {bytes : ByteArray} {maxL n lvc ix b0 ci N : Nat} {ret : Option FieldType} {As : (Nat → Nat) → List Value} {fs : List (Nat × Nat)} {T : u_T}
abbrev wX (X : XC) (ad : Nat → Nat) : WDt := (X.2.2.1.1, ad, X.2.2.1.2.2)
theorem n_runV (E : NE X cc own nL rm) (hZ : SZ A X.1.2.2.2.2.1 X.1.2.2.2.2.1.heap) (hW : WT dsc σ) (md : MDv y bytes maxL ret n) {Qc : WDt → Array Value → State → Outcome → State → Prop} (hM : MT dsc y bytes maxL ret lvc (fun ad => .ref (ad b0) :: As ad) σ Qc) (hb : dsc[b0]? = some (.inr (ci, fs))) (hcl : CLS[ci]? = some (y.cls, T, N)) (hlv : lvc + 1 ≤ rm.frames ∧ 8 + (maxL + 11) + 40 * lvc ≤ rm.locals) (hl : Cond.methodLink own ix y ∈ TB) (hd : decode cc pc = .ok (.invokevirtual ix, 3)) (hn : ∀ ad, (As ad).length = n) (hcat : (st.map fun v => v.category).sum ≤ 8) (hcs : a ≤ rm.cells ∧ b ≤ rm.slots)
    {H : Heap} {locs : List Loc} {ls : Array Slot} (hP : va_P X.2.2.1.1 CLS (wf ++ (wl dsc (wX X ad) σ ++ wr)) H) (hD : va_D A (wf ++ (wl dsc (wX X ad) σ ++ wr))) (hS : va_S A X.1.2.2.2.2.1.heap H locs) (hL : lv_has ls X.2.2.2.1 L) :
    va_Run X.1.1 X.1.2.1 X.1.2.2.1 X.1.2.2.2.1 X.1.2.2.2.2.1 X.1.2.2.2.2.2 X.2.1.1 X.2.1.2.1 X.2.1.2.2.1 X.2.1.2.2.2 H locs a b 0 0 (F0 X.1.2.2.2.2.2 pc ls ((As ad).reverse ++ .ref (ad b0) :: st)) st (Qc (wX X ad) (Value.ref (ad b0) :: As ad).toArray) (wA dsc (wX X ad)) := by
  obtain ⟨hPm, hI, hwA, -⟩ := mid_pack hP hD
  exact va_runV (As := As ad) (rest := st) ⟨E.1, E.2.1, E.2.2.1, E.2.2.2.2.1, E.2.2.2.2.2.1⟩ (hM X.1.2.1 (wX X ad) hI) (cwV n E.2.2.2.2.2.1 (TB_goodV md hl) rfl rfl rfl ⟨rfl, md.2.2.2.2⟩ ⟨by rw [E.2.2.2.2.2.2.2.1]; exact hlv.1, by rw [E.2.2.2.2.2.2.2.1]; exact hlv.2⟩)
    ⟨WU_blind, va_recv E.2.2.2.2.2.2.1 hPm hcl (wl_get (wX X ad) σ hb), fun U hU hWm => ⟨rfl, ⟨by rw [hU]; exact hPm, hW⟩, va_K.moved hWm.alike E.2.2.2.2.2.2.1, (SZ.kept hZ hWm (fun q h1 h2 => by rw [hU]; exact hS.2.1 q h1 h2)).narrow hwA⟩⟩ rfl (hn _) (hL.1.trans E.2.2.2.1) rfl (lv_room hcat) hd ⟨by rw [E.2.2.2.2.2.2.2.1]; exact hcs.1, by rw [E.2.2.2.2.2.2.2.1]; exact hcs.2⟩
theorem n_callI (E : NE X cc own nL rm) (hZ : SZ A X.1.2.2.2.2.1 X.1.2.2.2.2.1.heap) (hW : WT dsc σ) (md : MDv y bytes maxL ret n) {Q : Int → MS → Prop} (hM : MT dsc y bytes maxL ret lvc (fun ad => .ref (ad b0) :: As ad) σ (po_I dsc Q)) (hb : dsc[b0]? = some (.inr (ci, fs))) (hcl : CLS[ci]? = some (y.cls, T, N)) (hlv : lvc + 1 ≤ rm.frames ∧ 8 + (maxL + 11) + 40 * lvc ≤ rm.locals) (hl : Cond.methodLink own ix y ∈ TB) (hd : decode cc pc = .ok (.invokevirtual ix, 3)) (hn : ∀ ad, (As ad).length = n) (hst : stk = (As ad).reverse ++ .ref (ad b0) :: st) (hcat : (st.map fun v => v.category).sum ≤ 8) (hcs : a ≤ rm.cells ∧ b ≤ rm.slots) (hws : ws = wf ++ (wl dsc (wX X ad) σ ++ wr))
    (h : ∀ r σ', Rng r → Q r σ' → WT dsc σ' → NV A X (pc + 3) L (.int (iI r) :: st) (wf ++ (wl dsc (wX X ad) σ' ++ wr)) a b) : NV A X pc L stk ws a b := by
  subst hst hws
  intro H locs ls hP hD hS hL
  obtain ⟨hPm, hI, hwA, hj⟩ := mid_pack hP hD
  refine va_calli (n_runV E hZ hW md hM hb hcl hlv hl hd hn hcat hcs hP hD hS hL) hS (fun q _ z => hwA q z) hwA (fun r u t H1 locs1 ht hvm hp hB hz hk hS1 => ?_)
  obtain ⟨x, σ'⟩ := u
  obtain ⟨rfl, hr, hq⟩ := hp
  rw [ht] at hB
  obtain ⟨hP1, hD1⟩ := hj H1 σ' hk hB.1
  exact h x σ' hr hq hB.2 H1 locs1 ls hP1 hD1 hS1 hL
theorem n_callL (E : NE X cc own nL rm) (hZ : SZ A X.1.2.2.2.2.1 X.1.2.2.2.2.1.heap) (hW : WT dsc σ) (md : MDv y bytes maxL ret n) {Q : Int64 → MS → Prop} (hM : MT dsc y bytes maxL ret lvc (fun ad => .ref (ad b0) :: As ad) σ (po_L dsc Q)) (hb : dsc[b0]? = some (.inr (ci, fs))) (hcl : CLS[ci]? = some (y.cls, T, N)) (hlv : lvc + 1 ≤ rm.frames ∧ 8 + (maxL + 11) + 40 * lvc ≤ rm.locals) (hl : Cond.methodLink own ix y ∈ TB) (hd : decode cc pc = .ok (.invokevirtual ix, 3)) (hn : ∀ ad, (As ad).length = n) (hst : stk = (As ad).reverse ++ .ref (ad b0) :: st) (hcat : (st.map fun v => v.category).sum ≤ 8) (hcs : a ≤ rm.cells ∧ b ≤ rm.slots) (hws : ws = wf ++ (wl dsc (wX X ad) σ ++ wr))
    (h : ∀ r σ', Q r σ' → WT dsc σ' → NV A X (pc + 3) L (.long r :: st) (wf ++ (wl dsc (wX X ad) σ' ++ wr)) a b) : NV A X pc L stk ws a b := by
  subst hst hws
  intro H locs ls hP hD hS hL
  obtain ⟨hPm, hI, hwA, hj⟩ := mid_pack hP hD
  refine va_calll (n_runV E hZ hW md hM hb hcl hlv hl hd hn hcat hcs hP hD hS hL) hS (fun q _ z => hwA q z) hwA (fun r σ' t H1 locs1 ht hvm hp hB hz hk hS1 => ?_)
  rw [ht] at hB
  obtain ⟨hP1, hD1⟩ := hj H1 σ' hk hB.1
  exact h r σ' hp hB.2 H1 locs1 ls hP1 hD1 hS1 hL
theorem n_callV (E : NE X cc own nL rm) (hZ : SZ A X.1.2.2.2.2.1 X.1.2.2.2.2.1.heap) (hW : WT dsc σ) (md : MDv y bytes maxL ret n) {Q : MS → Prop} (hM : MT dsc y bytes maxL ret lvc (fun ad => .ref (ad b0) :: As ad) σ (po_V dsc Q)) (hb : dsc[b0]? = some (.inr (ci, fs))) (hcl : CLS[ci]? = some (y.cls, T, N)) (hlv : lvc + 1 ≤ rm.frames ∧ 8 + (maxL + 11) + 40 * lvc ≤ rm.locals) (hl : Cond.methodLink own ix y ∈ TB) (hd : decode cc pc = .ok (.invokevirtual ix, 3)) (hn : ∀ ad, (As ad).length = n) (hst : stk = (As ad).reverse ++ .ref (ad b0) :: st) (hcat : (st.map fun v => v.category).sum ≤ 8) (hcs : a ≤ rm.cells ∧ b ≤ rm.slots) (hws : ws = wf ++ (wl dsc (wX X ad) σ ++ wr))
    (h : ∀ σ', Q σ' → WT dsc σ' → NV A X (pc + 3) L st (wf ++ (wl dsc (wX X ad) σ' ++ wr)) a b) : NV A X pc L stk ws a b := by
  subst hst hws
  intro H locs ls hP hD hS hL
  obtain ⟨hPm, hI, hwA, hj⟩ := mid_pack hP hD
  refine va_callv (n_runV E hZ hW md hM hb hcl hlv hl hd hn hcat hcs hP hD hS hL) hS (fun q _ z => hwA q z) hwA (fun σ' t H1 locs1 ht hvm hp hB hz hk hS1 => ?_)
  rw [ht] at hB
  obtain ⟨hP1, hD1⟩ := hj H1 σ' hk hB.1
  exact h σ' hp hB.2 H1 locs1 ls hP1 hD1 hS1 hL
variable {C : String} {ty : Nat → FieldType} {k : Nat}
theorem n_putW (E : NE X cc own nL rm) (cf : CF ci C T N ty) (hk : dsc[k]? = some (.inr (ci, fs))) (j : Nat) (hj : j < N) (hdecl : (T j).1 = C) (hfin : (T j).2.2.2 = false) {ix : Nat} (hl : Cond.fieldLink own ix C (T j).2.1 (T j).2.2.1 ∈ TB) (hd : decode cc pc = .ok (.putfield ix, 3)) {o : Nat} (hf : fs[j]? = some (0, o)) {x : Int} {v : Int32} (hv : v = iI x) (hn : narrow (ty j) (.int (iI x)) = .int (iI x)) (hfit : fits (ty j) (.int (iI x)) = true) (h : NV A X (pc + 3) L st (wl dsc (wX X ad) (sI σ k j x)) a b) : NV A X pc L (.int v :: .ref (ad k) :: st) (wl dsc (wX X ad) σ) a b := by
  subst hv
  refine n_put E cf k (wl_get (wX X ad) σ hk) j hj hdecl (Or.inl hfin) hl hn hfit (by rw [List.length_mapIdx]; exact (List.getElem?_eq_some_iff.mp hf).1) hd _ ?_ h
  have e : (fs.mapIdx (fun j f => fval ad σ k j f)).set j (.int (iI x)) = fs.mapIdx (fun i f => fval ad (sI σ k j x) k i f) := mapIdx_set (ad := ad) fs hf (by show Value.int (iI (gI (sI σ k j x) k j)) = _; rw [gI_sI, if_pos ⟨rfl, rfl⟩]) (fun i g hi => fval_sI (Or.inr (by omega)))
  show (wl dsc (wX X ad) σ).set k (ad k, .inr (ci, (fs.mapIdx (fun j f => fval ad σ k j f)).set j (.int (iI x)))) = _
  rw [e]
  exact wl_set (w := wX X ad) (σ' := sI σ k j x) hk (fun i cd' hi => cellE_sI hi cd')
theorem n_getW (E : NE X cc own nL rm) (cf : CF ci C T N ty) (hk : dsc[k]? = some (.inr (ci, fs))) (j : Nat) (hj : j < N) (hdecl : (T j).1 = C) {ix : Nat} (hl : Cond.fieldLink own ix C (T j).2.1 (T j).2.2.1 ∈ TB) (hd : decode cc pc = .ok (.getfield ix, 3)) {o : Nat} (hf : fs[j]? = some (4, o)) (h : NV A X (pc + 3) L (.ref (ad o) :: st) (wl dsc (wX X ad) σ) a b) : NV A X pc L (.ref (ad k) :: st) (wl dsc (wX X ad) σ) a b :=
  n_get E cf k (wl_get (wX X ad) σ hk) j hj hdecl hl (v := .ref (ad o)) (by rw [List.getElem?_mapIdx, hf]; rfl) hd h
end GM
theorem dC_S (s : Nat) (h : isS s) : dscC[s]? = some dSt := by
  unfold isS at h
  obtain ⟨k, hk⟩ : ∃ k : Fin 14, s = 36 + 2 * k.val := ⟨⟨(s - 36) / 2, by omega⟩, by simp; omega⟩
  rw [hk]
  have : ∀ k : Fin 14, dscC[36 + 2 * k.val]? = some dSt := by decide
  exact this k
def noR : Option CD → Bool
  | some (.inl (c, _)) => c != 2
  | some (.inr (_, fs)) => fs.all (fun f => f.1 != 2)
  | none => true
theorem rreq_no {dsc : List CD} {k : Nat} (h : noR dsc[k]? = true) (j : Int) : rreq dsc k j = none := by
  unfold rreq
  revert h
  generalize dsc[k]? = o
  intro h
  match o, h with
  | none, _ => rfl
  | some (.inl (0, _)), _ => rfl
  | some (.inl (1, _)), _ => rfl
  | some (.inl (2, _)), h => exact absurd (show ((2 : Nat) != 2) = true from h) (by decide)
  | some (.inl (n + 3, _)), _ => rfl
  | some (.inr (_, fs)), h =>
    have h1 : ∀ f ∈ fs, f.1 ≠ 2 := by
      intro f hf
      have := List.all_eq_true.mp h f hf
      simpa using this
    show (match fs[j.toNat]? with | some (2, _) => some dVal | _ => none) = none
    cases hf : fs[j.toNat]? with
    | none => rfl
    | some f =>
      have h2 := h1 f (List.mem_of_getElem? hf)
      obtain ⟨f1, f2⟩ := f
      match f1, h2 with
      | 0, _ => rfl
      | 1, _ => rfl
      | 2, h2 => exact absurd rfl h2
      | n + 3, _ => rfl
theorem noRC : ∀ k : Fin 64, k.val = 0 ∨ k.val = 17 ∨ k.val = 22 ∨ k.val = 24 ∨ noR dscC[k.val]? = true := by decide +kernel
theorem s0C_WT : WT dscC s0C := by
  refine ⟨fun k j => ?_, fun k j d h => ?_⟩
  · show Rng (if k = 25 then (if j = 9 then -4 else 0) else if k = 17 then (if j = 4 then -4 else 0) else 0)
    split
    · split <;> constructor <;> decide
    · split
      · split <;> constructor <;> decide
      · constructor <;> decide
  · by_cases hk : k < 64
    · rcases noRC ⟨k, hk⟩ with e | e | e | e | e
      · have e : k = 0 := e
        subst e
        have hd : d = dVal := by
          unfold rreq at h
          rw [dC_0] at h
          dsimp only at h
          split at h
          · exact (Option.some.inj h).symm
          · cases h
        subst hd
        show dscC[if j = 1 then 7 else 1]? = some dVal
        split
        · exact dC_7
        · exact dC_1
      · have e : k = 17 := e
        subst e
        have hd : d = dVal := by
          unfold rreq at h
          rw [dC_17] at h
          dsimp only at h
          split at h
          · exact (Option.some.inj h).symm
          · cases h
        subst hd
        exact dC_1
      · have e : k = 22 := e
        subst e
        have hd : d = dSt := by
          unfold rreq at h
          rw [dC_22] at h
          exact (Option.some.inj h).symm
        subst hd
        show dscC[if 0 ≤ j ∧ j < 8 then 40 + 2 * j.toNat else 40]? = some dSt
        split
        · exact dC_S _ (by unfold isS; omega)
        · exact dC_S _ (by unfold isS; omega)
      · have e : k = 24 := e
        subst e
        have hd : d = dSt := by
          unfold rreq at h
          rw [dC_24] at h
          exact (Option.some.inj h).symm
        subst hd
        show dscC[if j = 1 then 58 else 56]? = some dSt
        split
        · exact dC_S _ (by unfold isS; omega)
        · exact dC_S _ (by unfold isS; omega)
      · rw [rreq_no e j] at h
        cases h
    · have : rreq dscC k j = none := rreq_no (by rw [show dscC[k]? = none from List.getElem?_eq_none (by show 64 ≤ k; omega)]; rfl) j
      rw [this] at h
      cases h
