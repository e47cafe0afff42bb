/-! ===== what the document speaks of, as numbers: a valley, how things stand, a day ===== -/
abbrev VT : Type := (Int × Int) × (Int → Int) × (Int → Int) × (Int → Int → Int) × (Int → Int → Int → Bool)
def vN (V : VT) : Int := V.1.1
def vMost (V : VT) : Int := V.1.2
def vKind (V : VT) : Int → Int := V.2.1
def vLate (V : VT) : Int → Int := V.2.2.1
def vWay (V : VT) : Int → Int → Int := V.2.2.2.1
def vSnow (V : VT) : Int → Int → Int → Bool := V.2.2.2.2
def WFV (V : VT) : Prop := 1 ≤ vN V ∧ vN V ≤ 7 ∧ 0 ≤ vMost V ∧ vMost V ≤ 99 ∧ (∀ c, 0 ≤ vKind V c ∧ vKind V c ≤ 3) ∧ (∀ c, 0 ≤ vLate V c ∧ vLate V c ≤ 40) ∧ (∀ a b, 0 ≤ vWay V a b ∧ vWay V a b ≤ 60 ∧ vWay V a b = vWay V b a) ∧ ∀ d a b, vSnow V d a b = vSnow V d b a
abbrev ST : Type := (Int × Int × Int × Int × Int) × (Int → Int → Bool) × (Int → Int)
def tDay (s : ST) : Int := s.1.1
def tBell (s : ST) : Int := s.1.2.1
def tHeld (s : ST) : Int := s.1.2.2.1
def tSick (s : ST) : Int := s.1.2.2.2.1
def tHad (s : ST) : Int := s.1.2.2.2.2
def tShut (s : ST) : Int → Int → Bool := s.2.1
def tSoup (s : ST) : Int → Int := s.2.2
def mkS (day bell held sick had : Int) (sh : Int → Int → Bool) (sp : Int → Int) : ST := ((day, bell, held, sick, had), sh, sp)
def bitI (m c : Int) : Int := iand (ishr m c) 1
def opn (V : VT) (d : Int) (sh : Int → Int → Bool) (a b : Int) : Bool := decide (0 < vWay V a b) && (!vSnow V d a b && !sh (min a b) (max a b))
def eW (V : VT) (d : Int) (sh : Int → Int → Bool) (a b : Int) : Int := if opn V d sh a b = true then vWay V a b else 1000000
def dst (V : VT) (d : Int) (sh : Int → Int → Bool) (a b : Int) : Int := fwE (eW V d sh) (vN V).toNat a b
def walkI (far kind : Int) : Int := if kind = 1 then far * 2 else if kind = 2 then far * 2 / 3 else far
/-- when a child comes; -1: it does not -/
def tm (V : VT) (s : ST) (c : Int) : Int :=
  if bitI (tSick s) c = 1 then -1 else if c = tBell s then bitI (tHeld s) c * 20
  else if vMost V < dst V (tDay s % 28) (tShut s) c (tBell s) then -1
  else walkI (dst V (tDay s % 28) (tShut s) c (tBell s)) (vKind V c) + vLate V c + (if vKind V c = 3 then 15 else 0) + bitI (tHeld s) c * 20
/-- who is last of those that are not missing -/
def who (V : VT) (s : ST) (mis : Int) : Int := (lst (fun c => if bitI mis c = 1 then -1 else tm V s c) (vN V).toNat).1
def cmr (V : VT) (s : ST) : Int := cnt (fun c => decide (0 ≤ tm V s c)) (vN V).toNat
def nxt (V : VT) (s : ST) : Int := if who V s 0 = -4 then tBell s else who V s 0
/-- a day goes by -/
def gby (V : VT) (s : ST) : ST := mkS (tDay s + 1) (nxt V s) 0 (tSick s) (ior (tHad s) (ishl 1 (nxt V s))) (tShut s) (fun h => if h = tBell s then tSoup s h + cmr V s else tSoup s h)
def gbyN (V : VT) : Nat → ST → ST
  | 0, s => s
  | k + 1, s => gby V (gbyN V k s)
theorem eW_in {V : VT} (h : WFV V) (d : Int) (sh : Int → Int → Bool) (a b : Int) : 0 ≤ eW V d sh a b ∧ eW V d sh a b ≤ 1000000 := by
  have := h.2.2.2.2.2.2.1 a b
  unfold eW
  split <;> omega
theorem eW_sym {V : VT} (h : WFV V) (d : Int) (sh : Int → Int → Bool) (a b : Int) : eW V d sh a b = eW V d sh b a := by
  unfold eW opn
  rw [(h.2.2.2.2.2.2.1 a b).2.2, h.2.2.2.2.2.2.2 d a b, Int.min_comm a b, Int.max_comm a b]
theorem fw0_in {V : VT} (h : WFV V) (d : Int) (sh : Int → Int → Bool) (a b : Int) : fwE (eW V d sh) 0 a b ≤ 1000000 := by
  have := eW_in h d sh a b
  unfold fwE
  split <;> omega
theorem fw_in {V : VT} (h : WFV V) (d : Int) (sh : Int → Int → Bool) (k : Nat) (a b : Int) : 0 ≤ fwE (eW V d sh) k a b ∧ fwE (eW V d sh) k a b ≤ 1000000 :=
  ⟨fw_nn (fun a b => (eW_in h d sh a b).1) k a b, Int.le_trans (fw_le _ k a b) (fw0_in h d sh a b)⟩
theorem dst_in {V : VT} (h : WFV V) (d : Int) (sh : Int → Int → Bool) (a b : Int) : 0 ≤ dst V d sh a b ∧ dst V d sh a b ≤ 1000000 := fw_in h d sh _ a b
theorem dst_sym {V : VT} (h : WFV V) (d : Int) (sh : Int → Int → Bool) (a b : Int) : dst V d sh a b = dst V d sh b a := fw_sym (fun a b => eW_sym h d sh a b) _ a b
theorem bitI_01 (m c : Int) : bitI m c = 0 ∨ bitI m c = 1 := by
  have key : ∀ x : BitVec 32, (x &&& 1#32).toInt = 0 ∨ (x &&& 1#32).toInt = 1 := by
    intro x
    have h1 : (x &&& 1#32).toNat ≤ 1 := by
      rw [BitVec.toNat_and]
      exact Nat.and_le_right
    rw [BitVec.toInt_eq_toNat_of_lt (by omega)]
    omega
  unfold bitI iand
  have h := key (iI (ishr m c)).toBitVec
  exact h
theorem walkI_in {f k : Int} (h : 0 ≤ f) (h2 : f ≤ 1000000) : 0 ≤ walkI f k ∧ walkI f k ≤ 2000000 := by
  unfold walkI
  split
  · omega
  · split <;> omega
theorem tm_in {V : VT} (h : WFV V) (s : ST) (c : Int) : -1 ≤ tm V s c ∧ tm V s c ≤ 2000100 := by
  have h1 := bitI_01 (tHeld s) c
  have h2 := h.2.2.2.2.2.1 c
  have h3 := dst_in h (tDay s % 28) (tShut s) c (tBell s)
  have h4 := walkI_in (k := vKind V c) h3.1 h3.2
  unfold tm
  split
  · omega
  · split
    · omega
    · split
      · omega
      · split <;> omega
theorem who_in {V : VT} (h : WFV V) (s : ST) (mis : Int) : who V s mis = -4 ∨ (0 ≤ who V s mis ∧ who V s mis < vN V) := by
  have hn := h.1
  rcases (lst_spec (fun c => if bitI mis c = 1 then -1 else tm V s c) (vN V).toNat).1 with q | q
  · exact Or.inl q.1
  · refine Or.inr ⟨q.1, ?_⟩
    have := q.2.1
    unfold who
    omega
theorem nxt_in {V : VT} (h : WFV V) {s : ST} (hb : 0 ≤ tBell s ∧ tBell s < vN V) : 0 ≤ nxt V s ∧ nxt V s < vN V := by
  unfold nxt
  rcases who_in h s 0 with q | q
  · rw [if_pos q]; exact hb
  · rw [if_neg (by omega)]; exact q
/-! ===== frames ===== -/
def Fr (ks : List Nat) (σ σ' : MS) : Prop := ∀ k, k ∉ ks → (∀ j, gI σ' k j = gI σ k j) ∧ (∀ j, gL σ' k j = gL σ k j) ∧ ∀ j, gR σ' k j = gR σ k j
theorem Fr.rf {ks : List Nat} {σ : MS} : Fr ks σ σ := fun _ _ => ⟨fun _ => rfl, fun _ => rfl, fun _ => rfl⟩
theorem Fr.tr {ks : List Nat} {a b c : MS} (h1 : Fr ks a b) (h2 : Fr ks b c) : Fr ks a c := fun k hk =>
  ⟨fun j => ((h2 k hk).1 j).trans ((h1 k hk).1 j), fun j => ((h2 k hk).2.1 j).trans ((h1 k hk).2.1 j), fun j => ((h2 k hk).2.2 j).trans ((h1 k hk).2.2 j)⟩
theorem Fr.mono {ks ls : List Nat} {a b : MS} (h : Fr ks a b) (hs : ∀ k ∈ ks, k ∈ ls) : Fr ls a b := fun k hk => h k (fun q => hk (hs k q))
theorem Fr.I {ks : List Nat} {σ : MS} {k : Nat} (hk : k ∈ ks) (j v : Int) : Fr ks σ (sI σ k j v) := fun k' hk' =>
  ⟨fun _ => gI_nk (fun e => hk' (by rw [e]; exact hk)), fun _ => rfl, fun _ => rfl⟩
theorem Fr.L {ks : List Nat} {σ : MS} {k : Nat} (hk : k ∈ ks) (j : Int) (v : Int64) : Fr ks σ (sL σ k j v) := fun k' hk' =>
  ⟨fun _ => rfl, fun _ => gL_nk (fun e => hk' (by rw [e]; exact hk)), fun _ => rfl⟩
theorem Fr.R {ks : List Nat} {σ : MS} {k : Nat} (hk : k ∈ ks) (j : Int) (v : Nat) : Fr ks σ (sR σ k j v) := fun k' hk' =>
  ⟨fun _ => rfl, fun _ => rfl, fun _ => gR_nk (fun e => hk' (by rw [e]; exact hk))⟩
theorem Fr.gI {ks : List Nat} {a b : MS} (h : Fr ks a b) {k : Nat} (hk : k ∉ ks) (j : Int) : gI b k j = gI a k j := (h k hk).1 j
theorem Fr.gL {ks : List Nat} {a b : MS} (h : Fr ks a b) {k : Nat} (hk : k ∉ ks) (j : Int) : gL b k j = gL a k j := (h k hk).2.1 j
theorem Fr.gR {ks : List Nat} {a b : MS} (h : Fr ks a b) {k : Nat} (hk : k ∉ ks) (j : Int) : gR b k j = gR a k j := (h k hk).2.2 j
theorem gI_eq {σ : MS} {k : Nat} {j v : Int} : gI (sI σ k j v) k j = v := by rw [gI_sI, if_pos ⟨rfl, rfl⟩]
theorem gI_nj {σ : MS} {k : Nat} {j v j' : Int} (h : j' ≠ j) : gI (sI σ k j v) k j' = gI σ k j' := by rw [gI_sI, if_neg (fun q => h q.2)]
theorem gL_eq {σ : MS} {k : Nat} {j : Int} {v : Int64} : gL (sL σ k j v) k j = v := by rw [gL_sL, if_pos ⟨rfl, rfl⟩]
theorem gL_nj {σ : MS} {k : Nat} {j : Int} {v : Int64} {j' : Int} (h : j' ≠ j) : gL (sL σ k j v) k j' = gL σ k j' := by rw [gL_sL, if_neg (fun q => h q.2)]
theorem gR_eq {σ : MS} {k : Nat} {j : Int} {v : Nat} : gR (sR σ k j v) k j = v := by rw [gR_sR, if_pos ⟨rfl, rfl⟩]
theorem gR_nj {σ : MS} {k : Nat} {j : Int} {v : Nat} {j' : Int} (h : j' ≠ j) : gR (sR σ k j v) k j' = gR σ k j' := by rw [gR_sR, if_neg (fun q => h q.2)]
