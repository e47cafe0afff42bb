/-! ===== printed by wip/whole/gen2.py: the cells of the class as they are first ===== -/
def mIx {α β : Type} (g : Nat → α → β) : Nat → List α → List β
  | _, [] => []
  | i, a :: l => g i a :: mIx g (i + 1) l
theorem mIx_nil {α β : Type} (g : Nat → α → β) (i : Nat) : mIx g i [] = [] := rfl
theorem mIx_cons {α β : Type} (g : Nat → α → β) (i : Nat) (a : α) (l : List α) : mIx g i (a :: l) = g i a :: mIx g (i + 1) l := rfl
theorem mIx_off {α β : Type} (g : Nat → α → β) (k : Nat) (l : List α) : mIx (fun i => g (i + k)) 0 l = mIx g k l := by
  have : ∀ (l : List α) (i : Nat), mIx (fun i => g (i + k)) i l = mIx g (i + k) l := by
    intro l
    induction l with
    | nil => intro i; rfl
    | cons a l ih => intro i; rw [mIx_cons, mIx_cons, ih, show i + 1 + k = i + k + 1 by omega]
  rw [this l 0, Nat.zero_add]
theorem mapIdx_mIx {α β : Type} (g : Nat → α → β) (l : List α) : l.mapIdx g = mIx g 0 l := by
  induction l generalizing g with
  | nil => rfl
  | cons a l ih => rw [List.mapIdx_cons, ih, mIx_cons, mIx_off g 1 l]
theorem wl_mIx (dsc : List CD) (w : WDt) (σ : MS) : wl dsc w σ = mIx (fun k cd => (w.2.1 k, cellE w σ k cd)) 0 dsc := mapIdx_mIx _ _
theorem cE_I {w : WDt} {σ : MS} {k n : Nat} (h : ∀ j : Nat, gI σ k j = 0) : cellE w σ k (.inl (0, n)) = .inl (w.2.2.1, n, .inl (fun _ => 0)) := by
  show (Sum.inl (w.2.2.1, n, .inl (fun j : Nat => iI (gI σ k j))) : va_E) = _
  rw [show (fun j : Nat => iI (gI σ k j)) = fun _ => (0 : Int32) from funext fun j => by rw [h j]; rfl]
theorem cE_C {w : WDt} {σ : MS} {k n : Nat} (h : ∀ j : Nat, gI σ k j = 0) : cellE w σ k (.inl (3, n)) = .inl (w.2.2.2.2.1, n, .inl (fun _ => 0)) := by
  show (Sum.inl (w.2.2.2.2.1, n, .inl (fun j : Nat => iI (gI σ k j))) : va_E) = _
  rw [show (fun j : Nat => iI (gI σ k j)) = fun _ => (0 : Int32) from funext fun j => by rw [h j]; rfl]
theorem cE_L {w : WDt} {σ : MS} {k n : Nat} (h : ∀ j : Nat, gL σ k j = 0) : cellE w σ k (.inl (1, n)) = .inl (w.2.2.2.1, n, .inr (.inl (fun _ => 0))) := by
  show (Sum.inl (w.2.2.2.1, n, .inr (.inl (fun j : Nat => gL σ k j))) : va_E) = _
  rw [show (fun j : Nat => gL σ k j) = fun _ => (0 : Int64) from funext h]
theorem cE_O {w : WDt} {σ : MS} {k ci : Nat} {fs : List (Nat × Nat)} {vs : List Value} (h : mIx (fun j f => fval w.2.1 σ k j f) 0 fs = vs) : cellE w σ k (.inr (ci, fs)) = .inr (ci, vs) := by
  show Sum.inr (ci, fs.mapIdx (fun j f => fval w.2.1 σ k j f)) = _
  rw [mapIdx_mIx, h]
theorem s0I {k : Nat} (h1 : ¬ k = 25) (h2 : ¬ k = 17) (j : Int) : gI s0C k j = 0 := by
  show (if k = 25 then (if j = 9 then -4 else 0) else if k = 17 then (if j = 4 then -4 else 0) else 0) = (0 : Int)
  rw [if_neg h1, if_neg h2]
theorem s0R22 (j : Nat) (hj : j < 8) : gR s0C 22 (j : Int) = 40 + 2 * j := by
  show (if 0 ≤ (j : Int) ∧ (j : Int) < 8 then 40 + 2 * (j : Int).toNat else 40) = 40 + 2 * j
  rw [if_pos (by omega)]
  rfl
theorem s0R24 (j : Nat) (hj : j < 2) : gR s0C 24 (j : Int) = 56 + 2 * j := by
  show (if (j : Int) = 1 then 58 else 56) = 56 + 2 * j
  split <;> omega
theorem s0L {k : Nat} (h1 : ¬ k = 31) (j : Int) : gL s0C k j = 0 := by
  show (if k = 31 then (if j = 2 then 1 else 0) else 0) = (0 : Int64)
  rw [if_neg h1]
theorem wc_0 (w : WDt) : cellE w s0C 0 (.inr (8, [(2, 0), (2, 0), (4, 13), (4, 15), (4, 17), (4, 36), (4, 38), (4, 21), (4, 23), (4, 25), (4, 31), (4, 34), (4, 35), (0, 0)])) = .inr (8, [.ref (w.2.1 1), .ref (w.2.1 7), .ref (w.2.1 13), .ref (w.2.1 15), .ref (w.2.1 17), .ref (w.2.1 36), .ref (w.2.1 38), .ref (w.2.1 21), .ref (w.2.1 23), .ref (w.2.1 25), .ref (w.2.1 31), .ref (w.2.1 34), .ref (w.2.1 35), .int 0]) := cE_O rfl
theorem wc_1 (w : WDt) : cellE w s0C 1 (.inr (7, [(3, 1), (3, 2), (3, 3), (3, 4), (3, 5), (0, 0), (0, 0), (0, 0)])) = .inr (7, [.ref (w.2.1 2), .ref (w.2.1 3), .ref (w.2.1 4), .ref (w.2.1 5), .ref (w.2.1 6), .int 0, .int 0, .int 0]) := cE_O rfl
theorem wc_2 (w : WDt) : cellE w s0C 2 (.inl (0, 7)) = .inl (w.2.2.1, 7, .inl (fun _ => 0)) := cE_I (fun j => s0I (by decide) (by decide) j)
theorem wc_3 (w : WDt) : cellE w s0C 3 (.inl (0, 7)) = .inl (w.2.2.1, 7, .inl (fun _ => 0)) := cE_I (fun j => s0I (by decide) (by decide) j)
theorem wc_4 (w : WDt) : cellE w s0C 4 (.inl (0, 49)) = .inl (w.2.2.1, 49, .inl (fun _ => 0)) := cE_I (fun j => s0I (by decide) (by decide) j)
theorem wc_5 (w : WDt) : cellE w s0C 5 (.inl (0, 49)) = .inl (w.2.2.1, 49, .inl (fun _ => 0)) := cE_I (fun j => s0I (by decide) (by decide) j)
theorem wc_6 (w : WDt) : cellE w s0C 6 (.inl (0, 49)) = .inl (w.2.2.1, 49, .inl (fun _ => 0)) := cE_I (fun j => s0I (by decide) (by decide) j)
theorem wc_7 (w : WDt) : cellE w s0C 7 (.inr (7, [(3, 1), (3, 2), (3, 3), (3, 4), (3, 5), (0, 0), (0, 0), (0, 0)])) = .inr (7, [.ref (w.2.1 8), .ref (w.2.1 9), .ref (w.2.1 10), .ref (w.2.1 11), .ref (w.2.1 12), .int 0, .int 0, .int 0]) := cE_O rfl
theorem wc_8 (w : WDt) : cellE w s0C 8 (.inl (0, 7)) = .inl (w.2.2.1, 7, .inl (fun _ => 0)) := cE_I (fun j => s0I (by decide) (by decide) j)
theorem wc_9 (w : WDt) : cellE w s0C 9 (.inl (0, 7)) = .inl (w.2.2.1, 7, .inl (fun _ => 0)) := cE_I (fun j => s0I (by decide) (by decide) j)
theorem wc_10 (w : WDt) : cellE w s0C 10 (.inl (0, 49)) = .inl (w.2.2.1, 49, .inl (fun _ => 0)) := cE_I (fun j => s0I (by decide) (by decide) j)
theorem wc_11 (w : WDt) : cellE w s0C 11 (.inl (0, 49)) = .inl (w.2.2.1, 49, .inl (fun _ => 0)) := cE_I (fun j => s0I (by decide) (by decide) j)
theorem wc_12 (w : WDt) : cellE w s0C 12 (.inl (0, 49)) = .inl (w.2.2.1, 49, .inl (fun _ => 0)) := cE_I (fun j => s0I (by decide) (by decide) j)
theorem wc_13 (w : WDt) : cellE w s0C 13 (.inr (6, [(4, 14), (0, 0)])) = .inr (6, [.ref (w.2.1 14), .int 0]) := cE_O rfl
theorem wc_14 (w : WDt) : cellE w s0C 14 (.inl (3, 200)) = .inl (w.2.2.2.2.1, 200, .inl (fun _ => 0)) := cE_C (fun j => s0I (by decide) (by decide) j)
theorem wc_15 (w : WDt) : cellE w s0C 15 (.inr (2, [(4, 16), (0, 0)])) = .inr (2, [.ref (w.2.1 16), .int 0]) := cE_O rfl
theorem wc_16 (w : WDt) : cellE w s0C 16 (.inl (0, 4)) = .inl (w.2.2.1, 4, .inl (fun _ => 0)) := cE_I (fun j => s0I (by decide) (by decide) j)
theorem wc_17 (w : WDt) : cellE w s0C 17 (.inr (1, [(4, 18), (4, 19), (2, 0), (4, 20), (0, 0), (0, 0)])) = .inr (1, [.ref (w.2.1 18), .ref (w.2.1 19), .ref (w.2.1 1), .ref (w.2.1 20), .int (-4), .int 0]) := cE_O rfl
theorem wc_18 (w : WDt) : cellE w s0C 18 (.inl (0, 1372)) = .inl (w.2.2.1, 1372, .inl (fun _ => 0)) := cE_I (fun j => s0I (by decide) (by decide) j)
theorem wc_19 (w : WDt) : cellE w s0C 19 (.inl (1, 28)) = .inl (w.2.2.2.1, 28, .inr (.inl (fun _ => 0))) := cE_L (fun j => s0L (by decide) j)
theorem wc_20 (w : WDt) : cellE w s0C 20 (.inl (0, 7)) = .inl (w.2.2.1, 7, .inl (fun _ => 0)) := cE_I (fun j => s0I (by decide) (by decide) j)
theorem wc_21 (w : WDt) : cellE w s0C 21 (.inr (4, [(4, 22), (0, 0)])) = .inr (4, [.ref (w.2.1 22), .int 0]) := cE_O rfl
theorem wc_22 (w : WDt) : cellE w s0C 22 (.inl (2, 8)) = .inl (w.2.2.2.2.2, 8, .inr (.inr (.inr (.inr (fun j : Nat => some (w.2.1 (gR s0C 22 j))))))) := rfl
theorem wc_23 (w : WDt) : cellE w s0C 23 (.inr (4, [(4, 24), (0, 0)])) = .inr (4, [.ref (w.2.1 24), .int 0]) := cE_O rfl
theorem wc_24 (w : WDt) : cellE w s0C 24 (.inl (2, 2)) = .inl (w.2.2.2.2.2, 2, .inr (.inr (.inr (.inr (fun j : Nat => some (w.2.1 (gR s0C 24 j))))))) := rfl
theorem wc_25 (w : WDt) : cellE w s0C 25 (.inr (3, [(4, 26), (4, 27), (4, 28), (4, 29), (4, 60), (4, 62), (0, 0), (0, 0), (4, 30), (0, 0), (0, 0)])) = .inr (3, [.ref (w.2.1 26), .ref (w.2.1 27), .ref (w.2.1 28), .ref (w.2.1 29), .ref (w.2.1 60), .ref (w.2.1 62), .int 0, .int 0, .ref (w.2.1 30), .int (-4), .int 0]) := cE_O rfl
theorem wc_26 (w : WDt) : cellE w s0C 26 (.inl (1, 203)) = .inl (w.2.2.2.1, 203, .inr (.inl (fun _ => 0))) := cE_L (fun j => s0L (by decide) j)
theorem wc_27 (w : WDt) : cellE w s0C 27 (.inl (1, 203)) = .inl (w.2.2.2.1, 203, .inr (.inl (fun _ => 0))) := cE_L (fun j => s0L (by decide) j)
theorem wc_28 (w : WDt) : cellE w s0C 28 (.inl (0, 1568)) = .inl (w.2.2.1, 1568, .inl (fun _ => 0)) := cE_I (fun j => s0I (by decide) (by decide) j)
theorem wc_29 (w : WDt) : cellE w s0C 29 (.inl (0, 7)) = .inl (w.2.2.1, 7, .inl (fun _ => 0)) := cE_I (fun j => s0I (by decide) (by decide) j)
theorem wc_30 (w : WDt) : cellE w s0C 30 (.inl (0, 28)) = .inl (w.2.2.1, 28, .inl (fun _ => 0)) := cE_I (fun j => s0I (by decide) (by decide) j)
theorem wc_31 (w : WDt) : cellE w s0C 31 (.inr (0, [(4, 32), (4, 33), (1, 0)])) = .inr (0, [.ref (w.2.1 32), .ref (w.2.1 33), .long 1]) := cE_O rfl
theorem wc_32 (w : WDt) : cellE w s0C 32 (.inl (1, 7)) = .inl (w.2.2.2.1, 7, .inr (.inl (fun _ => 0))) := cE_L (fun j => s0L (by decide) j)
theorem wc_33 (w : WDt) : cellE w s0C 33 (.inl (1, 7)) = .inl (w.2.2.2.1, 7, .inr (.inl (fun _ => 0))) := cE_L (fun j => s0L (by decide) j)
theorem wc_34 (w : WDt) : cellE w s0C 34 (.inl (0, 6)) = .inl (w.2.2.1, 6, .inl (fun _ => 0)) := cE_I (fun j => s0I (by decide) (by decide) j)
theorem wc_35 (w : WDt) : cellE w s0C 35 (.inl (0, 6)) = .inl (w.2.2.1, 6, .inl (fun _ => 0)) := cE_I (fun j => s0I (by decide) (by decide) j)
theorem wc_36 (w : WDt) : cellE w s0C 36 (.inr (5, [(3, 1), (0, 0), (0, 0), (0, 0), (0, 0), (0, 0), (1, 0)])) = .inr (5, [.ref (w.2.1 37), .int 0, .int 0, .int 0, .int 0, .int 0, .long 0]) := cE_O rfl
theorem wc_37 (w : WDt) : cellE w s0C 37 (.inl (0, 7)) = .inl (w.2.2.1, 7, .inl (fun _ => 0)) := cE_I (fun j => s0I (by decide) (by decide) j)
theorem wc_38 (w : WDt) : cellE w s0C 38 (.inr (5, [(3, 1), (0, 0), (0, 0), (0, 0), (0, 0), (0, 0), (1, 0)])) = .inr (5, [.ref (w.2.1 39), .int 0, .int 0, .int 0, .int 0, .int 0, .long 0]) := cE_O rfl
theorem wc_39 (w : WDt) : cellE w s0C 39 (.inl (0, 7)) = .inl (w.2.2.1, 7, .inl (fun _ => 0)) := cE_I (fun j => s0I (by decide) (by decide) j)
theorem wc_40 (w : WDt) : cellE w s0C 40 (.inr (5, [(3, 1), (0, 0), (0, 0), (0, 0), (0, 0), (0, 0), (1, 0)])) = .inr (5, [.ref (w.2.1 41), .int 0, .int 0, .int 0, .int 0, .int 0, .long 0]) := cE_O rfl
theorem wc_41 (w : WDt) : cellE w s0C 41 (.inl (0, 7)) = .inl (w.2.2.1, 7, .inl (fun _ => 0)) := cE_I (fun j => s0I (by decide) (by decide) j)
theorem wc_42 (w : WDt) : cellE w s0C 42 (.inr (5, [(3, 1), (0, 0), (0, 0), (0, 0), (0, 0), (0, 0), (1, 0)])) = .inr (5, [.ref (w.2.1 43), .int 0, .int 0, .int 0, .int 0, .int 0, .long 0]) := cE_O rfl
theorem wc_43 (w : WDt) : cellE w s0C 43 (.inl (0, 7)) = .inl (w.2.2.1, 7, .inl (fun _ => 0)) := cE_I (fun j => s0I (by decide) (by decide) j)
theorem wc_44 (w : WDt) : cellE w s0C 44 (.inr (5, [(3, 1), (0, 0), (0, 0), (0, 0), (0, 0), (0, 0), (1, 0)])) = .inr (5, [.ref (w.2.1 45), .int 0, .int 0, .int 0, .int 0, .int 0, .long 0]) := cE_O rfl
theorem wc_45 (w : WDt) : cellE w s0C 45 (.inl (0, 7)) = .inl (w.2.2.1, 7, .inl (fun _ => 0)) := cE_I (fun j => s0I (by decide) (by decide) j)
theorem wc_46 (w : WDt) : cellE w s0C 46 (.inr (5, [(3, 1), (0, 0), (0, 0), (0, 0), (0, 0), (0, 0), (1, 0)])) = .inr (5, [.ref (w.2.1 47), .int 0, .int 0, .int 0, .int 0, .int 0, .long 0]) := cE_O rfl
theorem wc_47 (w : WDt) : cellE w s0C 47 (.inl (0, 7)) = .inl (w.2.2.1, 7, .inl (fun _ => 0)) := cE_I (fun j => s0I (by decide) (by decide) j)
theorem wc_48 (w : WDt) : cellE w s0C 48 (.inr (5, [(3, 1), (0, 0), (0, 0), (0, 0), (0, 0), (0, 0), (1, 0)])) = .inr (5, [.ref (w.2.1 49), .int 0, .int 0, .int 0, .int 0, .int 0, .long 0]) := cE_O rfl
theorem wc_49 (w : WDt) : cellE w s0C 49 (.inl (0, 7)) = .inl (w.2.2.1, 7, .inl (fun _ => 0)) := cE_I (fun j => s0I (by decide) (by decide) j)
theorem wc_50 (w : WDt) : cellE w s0C 50 (.inr (5, [(3, 1), (0, 0), (0, 0), (0, 0), (0, 0), (0, 0), (1, 0)])) = .inr (5, [.ref (w.2.1 51), .int 0, .int 0, .int 0, .int 0, .int 0, .long 0]) := cE_O rfl
theorem wc_51 (w : WDt) : cellE w s0C 51 (.inl (0, 7)) = .inl (w.2.2.1, 7, .inl (fun _ => 0)) := cE_I (fun j => s0I (by decide) (by decide) j)
theorem wc_52 (w : WDt) : cellE w s0C 52 (.inr (5, [(3, 1), (0, 0), (0, 0), (0, 0), (0, 0), (0, 0), (1, 0)])) = .inr (5, [.ref (w.2.1 53), .int 0, .int 0, .int 0, .int 0, .int 0, .long 0]) := cE_O rfl
theorem wc_53 (w : WDt) : cellE w s0C 53 (.inl (0, 7)) = .inl (w.2.2.1, 7, .inl (fun _ => 0)) := cE_I (fun j => s0I (by decide) (by decide) j)
theorem wc_54 (w : WDt) : cellE w s0C 54 (.inr (5, [(3, 1), (0, 0), (0, 0), (0, 0), (0, 0), (0, 0), (1, 0)])) = .inr (5, [.ref (w.2.1 55), .int 0, .int 0, .int 0, .int 0, .int 0, .long 0]) := cE_O rfl
theorem wc_55 (w : WDt) : cellE w s0C 55 (.inl (0, 7)) = .inl (w.2.2.1, 7, .inl (fun _ => 0)) := cE_I (fun j => s0I (by decide) (by decide) j)
theorem wc_56 (w : WDt) : cellE w s0C 56 (.inr (5, [(3, 1), (0, 0), (0, 0), (0, 0), (0, 0), (0, 0), (1, 0)])) = .inr (5, [.ref (w.2.1 57), .int 0, .int 0, .int 0, .int 0, .int 0, .long 0]) := cE_O rfl
theorem wc_57 (w : WDt) : cellE w s0C 57 (.inl (0, 7)) = .inl (w.2.2.1, 7, .inl (fun _ => 0)) := cE_I (fun j => s0I (by decide) (by decide) j)
theorem wc_58 (w : WDt) : cellE w s0C 58 (.inr (5, [(3, 1), (0, 0), (0, 0), (0, 0), (0, 0), (0, 0), (1, 0)])) = .inr (5, [.ref (w.2.1 59), .int 0, .int 0, .int 0, .int 0, .int 0, .long 0]) := cE_O rfl
theorem wc_59 (w : WDt) : cellE w s0C 59 (.inl (0, 7)) = .inl (w.2.2.1, 7, .inl (fun _ => 0)) := cE_I (fun j => s0I (by decide) (by decide) j)
theorem wc_60 (w : WDt) : cellE w s0C 60 (.inr (5, [(3, 1), (0, 0), (0, 0), (0, 0), (0, 0), (0, 0), (1, 0)])) = .inr (5, [.ref (w.2.1 61), .int 0, .int 0, .int 0, .int 0, .int 0, .long 0]) := cE_O rfl
theorem wc_61 (w : WDt) : cellE w s0C 61 (.inl (0, 7)) = .inl (w.2.2.1, 7, .inl (fun _ => 0)) := cE_I (fun j => s0I (by decide) (by decide) j)
theorem wc_62 (w : WDt) : cellE w s0C 62 (.inr (5, [(3, 1), (0, 0), (0, 0), (0, 0), (0, 0), (0, 0), (1, 0)])) = .inr (5, [.ref (w.2.1 63), .int 0, .int 0, .int 0, .int 0, .int 0, .long 0]) := cE_O rfl
theorem wc_63 (w : WDt) : cellE w s0C 63 (.inl (0, 7)) = .inl (w.2.2.1, 7, .inl (fun _ => 0)) := cE_I (fun j => s0I (by decide) (by decide) j)
set_option maxHeartbeats 4000000 in
set_option maxRecDepth 100000 in
theorem wl_s0C (w : WDt) : wl dscC w s0C = [((w.2.1 0), .inr (8, [.ref (w.2.1 1), .ref (w.2.1 7), .ref (w.2.1 13), .ref (w.2.1 15), .ref (w.2.1 17), .ref (w.2.1 36), .ref (w.2.1 38), .ref (w.2.1 21), .ref (w.2.1 23), .ref (w.2.1 25), .ref (w.2.1 31), .ref (w.2.1 34), .ref (w.2.1 35), .int 0])), ((w.2.1 1), .inr (7, [.ref (w.2.1 2), .ref (w.2.1 3), .ref (w.2.1 4), .ref (w.2.1 5), .ref (w.2.1 6), .int 0, .int 0, .int 0])), ((w.2.1 2), .inl (w.2.2.1, 7, .inl (fun _ => 0))), ((w.2.1 3), .inl (w.2.2.1, 7, .inl (fun _ => 0))), ((w.2.1 4), .inl (w.2.2.1, 49, .inl (fun _ => 0))), ((w.2.1 5), .inl (w.2.2.1, 49, .inl (fun _ => 0))), ((w.2.1 6), .inl (w.2.2.1, 49, .inl (fun _ => 0))), ((w.2.1 7), .inr (7, [.ref (w.2.1 8), .ref (w.2.1 9), .ref (w.2.1 10), .ref (w.2.1 11), .ref (w.2.1 12), .int 0, .int 0, .int 0])), ((w.2.1 8), .inl (w.2.2.1, 7, .inl (fun _ => 0))), ((w.2.1 9), .inl (w.2.2.1, 7, .inl (fun _ => 0))), ((w.2.1 10), .inl (w.2.2.1, 49, .inl (fun _ => 0))), ((w.2.1 11), .inl (w.2.2.1, 49, .inl (fun _ => 0))), ((w.2.1 12), .inl (w.2.2.1, 49, .inl (fun _ => 0))), ((w.2.1 13), .inr (6, [.ref (w.2.1 14), .int 0])), ((w.2.1 14), .inl (w.2.2.2.2.1, 200, .inl (fun _ => 0))), ((w.2.1 15), .inr (2, [.ref (w.2.1 16), .int 0])), ((w.2.1 16), .inl (w.2.2.1, 4, .inl (fun _ => 0))), ((w.2.1 17), .inr (1, [.ref (w.2.1 18), .ref (w.2.1 19), .ref (w.2.1 1), .ref (w.2.1 20), .int (-4), .int 0])), ((w.2.1 18), .inl (w.2.2.1, 1372, .inl (fun _ => 0))), ((w.2.1 19), .inl (w.2.2.2.1, 28, .inr (.inl (fun _ => 0)))), ((w.2.1 20), .inl (w.2.2.1, 7, .inl (fun _ => 0))), ((w.2.1 21), .inr (4, [.ref (w.2.1 22), .int 0])), ((w.2.1 22), .inl (w.2.2.2.2.2, 8, .inr (.inr (.inr (.inr (fun j : Nat => some (w.2.1 (gR s0C 22 j)))))))), ((w.2.1 23), .inr (4, [.ref (w.2.1 24), .int 0])), ((w.2.1 24), .inl (w.2.2.2.2.2, 2, .inr (.inr (.inr (.inr (fun j : Nat => some (w.2.1 (gR s0C 24 j)))))))), ((w.2.1 25), .inr (3, [.ref (w.2.1 26), .ref (w.2.1 27), .ref (w.2.1 28), .ref (w.2.1 29), .ref (w.2.1 60), .ref (w.2.1 62), .int 0, .int 0, .ref (w.2.1 30), .int (-4), .int 0])), ((w.2.1 26), .inl (w.2.2.2.1, 203, .inr (.inl (fun _ => 0)))), ((w.2.1 27), .inl (w.2.2.2.1, 203, .inr (.inl (fun _ => 0)))), ((w.2.1 28), .inl (w.2.2.1, 1568, .inl (fun _ => 0))), ((w.2.1 29), .inl (w.2.2.1, 7, .inl (fun _ => 0))), ((w.2.1 30), .inl (w.2.2.1, 28, .inl (fun _ => 0))), ((w.2.1 31), .inr (0, [.ref (w.2.1 32), .ref (w.2.1 33), .long 1])), ((w.2.1 32), .inl (w.2.2.2.1, 7, .inr (.inl (fun _ => 0)))), ((w.2.1 33), .inl (w.2.2.2.1, 7, .inr (.inl (fun _ => 0)))), ((w.2.1 34), .inl (w.2.2.1, 6, .inl (fun _ => 0))), ((w.2.1 35), .inl (w.2.2.1, 6, .inl (fun _ => 0))), ((w.2.1 36), .inr (5, [.ref (w.2.1 37), .int 0, .int 0, .int 0, .int 0, .int 0, .long 0])), ((w.2.1 37), .inl (w.2.2.1, 7, .inl (fun _ => 0))), ((w.2.1 38), .inr (5, [.ref (w.2.1 39), .int 0, .int 0, .int 0, .int 0, .int 0, .long 0])), ((w.2.1 39), .inl (w.2.2.1, 7, .inl (fun _ => 0))), ((w.2.1 40), .inr (5, [.ref (w.2.1 41), .int 0, .int 0, .int 0, .int 0, .int 0, .long 0])), ((w.2.1 41), .inl (w.2.2.1, 7, .inl (fun _ => 0))), ((w.2.1 42), .inr (5, [.ref (w.2.1 43), .int 0, .int 0, .int 0, .int 0, .int 0, .long 0])), ((w.2.1 43), .inl (w.2.2.1, 7, .inl (fun _ => 0))), ((w.2.1 44), .inr (5, [.ref (w.2.1 45), .int 0, .int 0, .int 0, .int 0, .int 0, .long 0])), ((w.2.1 45), .inl (w.2.2.1, 7, .inl (fun _ => 0))), ((w.2.1 46), .inr (5, [.ref (w.2.1 47), .int 0, .int 0, .int 0, .int 0, .int 0, .long 0])), ((w.2.1 47), .inl (w.2.2.1, 7, .inl (fun _ => 0))), ((w.2.1 48), .inr (5, [.ref (w.2.1 49), .int 0, .int 0, .int 0, .int 0, .int 0, .long 0])), ((w.2.1 49), .inl (w.2.2.1, 7, .inl (fun _ => 0))), ((w.2.1 50), .inr (5, [.ref (w.2.1 51), .int 0, .int 0, .int 0, .int 0, .int 0, .long 0])), ((w.2.1 51), .inl (w.2.2.1, 7, .inl (fun _ => 0))), ((w.2.1 52), .inr (5, [.ref (w.2.1 53), .int 0, .int 0, .int 0, .int 0, .int 0, .long 0])), ((w.2.1 53), .inl (w.2.2.1, 7, .inl (fun _ => 0))), ((w.2.1 54), .inr (5, [.ref (w.2.1 55), .int 0, .int 0, .int 0, .int 0, .int 0, .long 0])), ((w.2.1 55), .inl (w.2.2.1, 7, .inl (fun _ => 0))), ((w.2.1 56), .inr (5, [.ref (w.2.1 57), .int 0, .int 0, .int 0, .int 0, .int 0, .long 0])), ((w.2.1 57), .inl (w.2.2.1, 7, .inl (fun _ => 0))), ((w.2.1 58), .inr (5, [.ref (w.2.1 59), .int 0, .int 0, .int 0, .int 0, .int 0, .long 0])), ((w.2.1 59), .inl (w.2.2.1, 7, .inl (fun _ => 0))), ((w.2.1 60), .inr (5, [.ref (w.2.1 61), .int 0, .int 0, .int 0, .int 0, .int 0, .long 0])), ((w.2.1 61), .inl (w.2.2.1, 7, .inl (fun _ => 0))), ((w.2.1 62), .inr (5, [.ref (w.2.1 63), .int 0, .int 0, .int 0, .int 0, .int 0, .long 0])), ((w.2.1 63), .inl (w.2.2.1, 7, .inl (fun _ => 0)))] := by
  rw [wl_mIx]
  unfold dscC
  simp only [mIx_cons, mIx_nil, Nat.reduceAdd, wc_0, wc_1, wc_2, wc_3, wc_4, wc_5, wc_6, wc_7, wc_8, wc_9, wc_10, wc_11, wc_12, wc_13, wc_14, wc_15, wc_16, wc_17, wc_18, wc_19, wc_20, wc_21, wc_22, wc_23, wc_24, wc_25, wc_26, wc_27, wc_28, wc_29, wc_30, wc_31, wc_32, wc_33, wc_34, wc_35, wc_36, wc_37, wc_38, wc_39, wc_40, wc_41, wc_42, wc_43, wc_44, wc_45, wc_46, wc_47, wc_48, wc_49, wc_50, wc_51, wc_52, wc_53, wc_54, wc_55, wc_56, wc_57, wc_58, wc_59, wc_60, wc_61, wc_62, wc_63]
