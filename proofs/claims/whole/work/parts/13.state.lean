/-! ===== all as it stands: valley, standing, what can be undone, kept, seen, the text; what each call answers and leaves ===== -/
abbrev AT : Type := VT × ST × (Int × (Int → ST)) × (Int × (Int → ST)) × (Int × (Int → Int) × (Int → Int)) × (Int × (Int → Int))
def aV (A : AT) : VT := A.1
def aS (A : AT) : ST := A.2.1
def aUn (A : AT) : Int := A.2.2.1.1
def aUf (A : AT) : Int → ST := A.2.2.1.2
def aKn (A : AT) : Int := A.2.2.2.1.1
def aKf (A : AT) : Int → ST := A.2.2.2.1.2
def aEn (A : AT) : Int := A.2.2.2.2.1.1
def aEh (A : AT) : Int → Int := A.2.2.2.2.1.2.1
def aEd (A : AT) : Int → Int := A.2.2.2.2.1.2.2
def aTn (A : AT) : Int := A.2.2.2.2.2.1
def aTl (A : AT) : Int → Int := A.2.2.2.2.2.2
def wS (A : AT) (s : ST) : AT := (A.1, s, A.2.2)
def wU (A : AT) (n : Int) (f : Int → ST) : AT := (A.1, A.2.1, (n, f), A.2.2.2)
def wK (A : AT) (n : Int) (f : Int → ST) : AT := (A.1, A.2.1, A.2.2.1, (n, f), A.2.2.2.2)
def wE (A : AT) (n : Int) (f g : Int → Int) : AT := (A.1, A.2.1, A.2.2.1, A.2.2.2.1, (n, f, g), A.2.2.2.2.2)
def wT (A : AT) (n : Int) (f : Int → Int) : AT := (A.1, A.2.1, A.2.2.1, A.2.2.2.1, A.2.2.2.2.1, (n, f))
def WF (B : Int) (A : AT) : Prop := WFV (aV A) ∧ STB B (vN (aV A)) (aS A) ∧ (0 ≤ aUn A ∧ aUn A ≤ 8 ∧ ∀ i, 0 ≤ i → i < aUn A → STB B (vN (aV A)) (aUf A i)) ∧ (0 ≤ aKn A ∧ aKn A ≤ 2 ∧ ∀ i, 0 ≤ i → i < aKn A → STB B (vN (aV A)) (aKf A i)) ∧
  (0 ≤ aEn A ∧ aEn A ≤ 6 ∧ ∀ i, 0 ≤ i → i < aEn A → (0 ≤ aEh A i ∧ aEh A i < vN (aV A)) ∧ 1 ≤ aEd A i ∧ aEd A i ≤ 28) ∧ 0 ≤ aTn A ∧ aTn A ≤ 200 ∧ ∀ i, 0 ≤ i → i < aTn A → 32 ≤ aTl A i ∧ aTl A i ≤ 126
def tSetBell (s : ST) (b : Int) : ST := mkS (tDay s) b (tHeld s) (tSick s) (tHad s) (tShut s) (tSoup s)
def tSetHeld (s : ST) (x : Int) : ST := mkS (tDay s) (tBell s) x (tSick s) (tHad s) (tShut s) (tSoup s)
def tSetSick (s : ST) (x : Int) : ST := mkS (tDay s) (tBell s) (tHeld s) x (tHad s) (tShut s) (tSoup s)
def tSetShut (s : ST) (f : Int → Int → Bool) : ST := mkS (tDay s) (tBell s) (tHeld s) (tSick s) (tHad s) f (tSoup s)
/-- what stood goes to the shelf of what can be undone -/
def push (A : AT) : AT := if aUn A < 8 then wU A (aUn A + 1) (fun i => if i = aUn A then aS A else aUf A i) else wU A 8 (fun i => if i = 7 then aS A else aUf A (i + 1))
def inH (A : AT) (h : Int) : Prop := 0 ≤ h ∧ h < vN (aV A)
def fHome (A : AT) (h w : Int) : Int := if (0 ≤ h ∧ h < vN (aV A)) ∧ 0 ≤ w ∧ w ≤ 6 then
    if w = 0 then vKind (aV A) h else if w = 1 then vLate (aV A) h else if w = 2 then (if tBell (aS A) = h then 1 else 0)
    else if w = 3 then bitI (tHad (aS A)) h else if w = 4 then tSoup (aS A) h else if w = 5 then bitI (tSick (aS A)) h else bitI (tHeld (aS A)) h
  else -1
def fTwo (A : AT) (a b : Int) : Prop := (0 ≤ a ∧ a < vN (aV A)) ∧ (0 ≤ b ∧ b < vN (aV A)) ∧ ¬ a = b
def fWay (A : AT) (a b w : Int) : Int := if ((0 ≤ a ∧ a < vN (aV A)) ∧ (0 ≤ b ∧ b < vN (aV A)) ∧ ¬ a = b) ∧ 0 ≤ w ∧ w ≤ 1 then
    if vWay (aV A) a b = 0 then -4 else if w = 0 then vWay (aV A) a b else if opn (aV A) (tDay (aS A) % 28) (tShut (aS A)) a b = true then 1 else 0
  else -1
def fFar (A : AT) (a b : Int) : Int := if (0 ≤ a ∧ a < vN (aV A)) ∧ 0 ≤ b ∧ b < vN (aV A) then
    if 1000000 ≤ dst (aV A) (tDay (aS A) % 28) (tShut (aS A)) a b then -4 else dst (aV A) (tDay (aS A) % 28) (tShut (aS A)) a b
  else -1
/-- a child's time as the class keeps it -/
def tv (V : VT) (s : ST) (c : Int) : Int := if tm V s c < 0 then -4 else tm V s c
def fComes (A : AT) (c : Int) : Int := if 0 ≤ c ∧ c < vN (aV A) then tv (aV A) (aS A) c else -1
def fLast (A : AT) : Int := who (aV A) (aS A) 0
def nPass (A : AT) (n : Int) : AT := if 1 ≤ n ∧ n ≤ 28 then wS (push A) (gbyN (aV A) n.toNat (aS A)) else A
def fPass (A : AT) (n : Int) : Int := if 1 ≤ n ∧ n ≤ 28 then tBell (gbyN (aV A) n.toNat (aS A)) else -1
def nKeepBack (A : AT) (c : Int) : AT := if 0 ≤ c ∧ c < vN (aV A) then wS (push A) (tSetHeld (aS A) (ixor (tHeld (aS A)) (ishl 1 c))) else A
def fKeepBack (A : AT) (c : Int) : Int := if 0 ≤ c ∧ c < vN (aV A) then bitI (ixor (tHeld (aS A)) (ishl 1 c)) c else -1
def nSick (A : AT) (c : Int) : AT := if 0 ≤ c ∧ c < vN (aV A) then wS (push A) (tSetSick (aS A) (ixor (tSick (aS A)) (ishl 1 c))) else A
def fSick (A : AT) (c : Int) : Int := if 0 ≤ c ∧ c < vN (aV A) then bitI (ixor (tSick (aS A)) (ishl 1 c)) c else -1
def flip2 (f : Int → Int → Bool) (a b : Int) : Int → Int → Bool := fun x y => if x = min a b ∧ y = max a b then !f x y else f x y
def nShut (A : AT) (a b : Int) : AT := if ((0 ≤ a ∧ a < vN (aV A)) ∧ (0 ≤ b ∧ b < vN (aV A)) ∧ ¬ a = b) ∧ ¬ vWay (aV A) a b = 0 then wS (push A) (tSetShut (aS A) (flip2 (tShut (aS A)) a b)) else A
def fShut (A : AT) (a b : Int) : Int := if (0 ≤ a ∧ a < vN (aV A)) ∧ (0 ≤ b ∧ b < vN (aV A)) ∧ ¬ a = b then
    if vWay (aV A) a b = 0 then -2 else if tShut (aS A) (min a b) (max a b) = true then 0 else 1
  else -1
def nUndo (A : AT) : AT := if aUn A = 0 then A else wS (wU A (aUn A - 1) (aUf A)) (aUf A (aUn A - 1))
def fUndo (A : AT) : Int := if aUn A = 0 then -2 else aUn A - 1
def fBehind (A : AT) (n : Int) : Int := if 0 ≤ n ∧ n ≤ 60 then tBell (gbyN (aV A) n.toNat (aS A)) else -1
/-- the first day of t, t + 1, .. (k of them) behind which the bell is where it is now -/
def agn (V : VT) (s : ST) : Nat → Nat → Int
  | 0, _ => -4
  | k + 1, t => if tBell (gbyN V t s) = tBell s then (t : Int) else agn V s k (t + 1)
def fAgain (A : AT) : Int := agn (aV A) (aS A) 56 1
def lb (w : Int) : Int := if w = -4 then 0 else ishl 1 w
def alw (V : VT) (s : ST) : Nat → Int
  | 0 => ishl 1 (vN V) - 1
  | k + 1 => iand (alw V s k) (lb (who V (tSetBell s k) 0))
def fAlways (A : AT) : Int := alw (aV A) (aS A) (vN (aV A)).toNat
def nev (V : VT) (s : ST) : Nat → Int
  | 0 => iand (ishl 1 (vN V) - 1) (ixor (ishl 1 (tBell s)) (-1))
  | k + 1 => iand (nev V s k) (ixor (ishl 1 (tBell (gbyN V (k + 1) s))) (-1))
def fNever (A : AT) : Int := nev (aV A) (aS A) 56
def fSee (A : AT) (h d : Int) : Int := if (0 ≤ h ∧ h < vN (aV A)) ∧ 1 ≤ d ∧ d ≤ 28 then if aEn A = 6 then -3 else aEn A + 1 else -1
def nSee (A : AT) (h d : Int) : AT := if ((0 ≤ h ∧ h < vN (aV A)) ∧ 1 ≤ d ∧ d ≤ 28) ∧ ¬ aEn A = 6 then wE A (aEn A + 1) (fun i => if i = aEn A then h else aEh A i) (fun i => if i = aEn A then d else aEd A i) else A
def fForget (A : AT) : Int := aEn A
def nForget (A : AT) : AT := wE A 0 (aEh A) (aEd A)
/-- the first k of what is seen would be so -/
def sees (A : AT) (s : ST) : Nat → Bool
  | 0 => true
  | k + 1 => sees A s k && decide (tBell (gbyN (aV A) (aEd A k).toNat s) = aEh A k)
def seesA (A : AT) (s : ST) : Bool := sees A s (aEn A).toNat
def fogK (A : AT) : Nat → Int
  | 0 => 0
  | k + 1 => if seesA A (tSetBell (aS A) k) = true then ior (fogK A k) (ishl 1 k) else fogK A k
def fFog (A : AT) : Int := fogK A (vN (aV A)).toNat
def triK (A : AT) : Nat → Int
  | 0 => if seesA A (aS A) = true then 128 else 0
  | k + 1 => if seesA A (tSetHeld (aS A) (ior (tHeld (aS A)) (ishl 1 k))) = true then ior (triK A k) (ishl 1 k) else triK A k
def fTripped (A : AT) : Int := triK A (vN (aV A)).toNat
def drw (V : VT) (z k : Int) : Int := if ((7919 * z + 6151 * k + 1) * (7919 * z + 6151 * k + 1) % 65521 / 2) / 8 % 2 = 0 then ishl 1 (((7919 * z + 6151 * k + 1) * (7919 * z + 6151 * k + 1) % 65521 / 2) % vN V) else 0
def yrs (V : VT) (z : Int) (s : ST) : Nat → ST
  | 0 => s
  | k + 1 => gby V (tSetHeld (yrs V z s k) (ior (tHeld (yrs V z s k)) (drw V z k)))
def sps (s : ST) : Nat → Int
  | 0 => 0
  | k + 1 => sps s k + tSoup s k
def fYear (A : AT) (z n w : Int) : Int := if (0 ≤ z ∧ z ≤ 9999) ∧ (1 ≤ n ∧ n ≤ 60) ∧ 0 ≤ w ∧ w ≤ 1 then
    if w = 0 then tBell (yrs (aV A) z (aS A) n.toNat) else sps (yrs (aV A) z (aS A) n.toNat) 7 - sps (aS A) 7
  else -1
def fKeep (A : AT) : Int := if aKn A = 2 then -3 else aKn A + 1
def nKeep (A : AT) : AT := if aKn A = 2 then A else wK A (aKn A + 1) (fun i => if i = aKn A then aS A else aKf A i)
def fBack (A : AT) : Int := if aKn A = 0 then -2 else aKn A - 1
def nBack (A : AT) : AT := if aKn A = 0 then A else wS (wU (wK A (aKn A - 1) (aKf A)) 0 (aUf A)) (aKf A (aKn A - 1))
def wct (V : VT) : Int := cnt (fun p => decide (p / 7 < p % 7 ∧ 0 < vWay V (p / 7) (p % 7))) 49
def sct (s : ST) : Int := cnt (fun p => tShut s (p / 7) (p % 7)) 49
def bct (m : Int) : Int := cnt (fun c => decide (bitI m c = 1)) 7
def fCount (A : AT) (w : Int) : Int := if w = 0 then vN (aV A) else if w = 1 then wct (aV A) else if w = 2 then sct (aS A) else if w = 3 then tDay (aS A) else if w = 4 then tBell (aS A)
  else if w = 5 then bct (tSick (aS A)) else if w = 6 then sps (aS A) 7 else if w = 7 then aEn A else if w = 8 then aUn A else if w = 9 then aKn A else if w = 10 then aTn A else -1
def fWrite (A : AT) (l : Int) : Int := if 32 ≤ l ∧ l ≤ 126 then if aTn A = 200 then -3 else aTn A + 1 else -1
def nWrite (A : AT) (l : Int) : AT := if (32 ≤ l ∧ l ≤ 126) ∧ ¬ aTn A = 200 then wT A (aTn A + 1) (fun i => if i = aTn A then l else aTl A i) else A
def fWipe (A : AT) : Int := aTn A
def nWipe (A : AT) : AT := wT A 0 (aTl A)
