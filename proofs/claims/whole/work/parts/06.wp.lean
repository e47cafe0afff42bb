/-! ===== printed by wip/whole/gen.py: what each method asks of its start (every index in its row, every number an int's) and gives its end ===== -/
def wp_Text_add (p1 : Int) (s0 : MS) (Q : Int → MS → Prop) : Prop :=
  ((gI s0 13 1) < 200 →
  (0 ≤ (gI s0 13 1) ∧ (gI s0 13 1) < 200) ∧
   (0 ≤ p1 ∧ p1 < 65536) ∧
   ∀ s1 : MS, s1 = sI s0 14 (gI s0 13 1) p1 →
   Rng ((gI s1 13 1) + 1) ∧
   ∀ s2 : MS, s2 = sI s1 13 1 ((gI s1 13 1) + 1) →
   Q 1 s2) ∧
  (¬ (gI s0 13 1) < 200 →
  Q 0 s0)
def wp_B_write (p1 : Int) (s0 : MS) (Q : Int → MS → Prop) : Prop :=
  (p1 < 32 →
  Q (-1) s0) ∧
  (¬ p1 < 32 →
  (p1 ≤ 126 →
   wp_Text_add (p1 % 65536) s0 (fun (r1 : Int) (s1 : MS) =>
    (r1 = 0 →
     Q (-3) s1) ∧
     (¬ r1 = 0 →
     Q (gI s1 13 1) s1))) ∧
   (¬ p1 ≤ 126 →
   Q (-1) s0))
def wp_B_wipe (s0 : MS) (Q : Int → MS → Prop) : Prop :=
  ∀ s1 : MS, s1 = sI s0 13 1 0 →
  Rng (gI s0 13 1) ∧
  Q (gI s0 13 1) s1
def wp_Valley_clear (v0 : Nat) (s0 : MS) (Q : MS → Prop) : Prop :=
  ∀ s1 : MS, s1 = sI s0 v0 5 0 →
  ∀ s2 : MS, s2 = sI s1 v0 6 0 →
  ∀ s3 : MS, s3 = sI s2 v0 7 60 →
  ∃ (I1 : Int → MS → Prop) (μ1 : Int → MS → Nat), I1 0 s3 ∧ ∀ (x1 : Int) (s4 : MS), I1 x1 s4 →
  Rng x1 ∧
  (49 ≤ x1 →
  Q s4) ∧
  (¬ 49 ≤ x1 →
  (0 ≤ x1 ∧ x1 < 49) ∧
   ∀ s5 : MS, s5 = sI s4 (v0 + 3) x1 0 →
   ∀ s6 : MS, s6 = sI s5 (v0 + 4) x1 28 →
   ∀ s7 : MS, s7 = sI s6 (v0 + 5) x1 0 →
   ∀ x2 : Int, x2 = x1 + 1 →
   I1 x2 s7 ∧ μ1 x2 s7 < μ1 x1 s4)
def wp_Text_at (p1 : Int) (s0 : MS) (Q : Int → Prop) : Prop :=
  (p1 < 0 →
  Q 32) ∧
  (¬ p1 < 0 →
  ((gI s0 13 1) ≤ p1 →
   Q 32) ∧
   (¬ (gI s0 13 1) ≤ p1 →
   (0 ≤ p1 ∧ p1 < 200) ∧
    (0 ≤ (gI s0 14 p1) ∧ (gI s0 14 p1) < 65536) ∧
    Q (gI s0 14 p1)))
def wp_Reader_numbersOf (p1 : Int) (Q : Int → Prop) : Prop :=
  (p1 = 98 →
  Q 1) ∧
  (p1 = 104 →
  Q 2) ∧
  (p1 = 110 →
  Q 1) ∧
  (p1 = 115 →
  Q 4) ∧
  (p1 = 119 →
  Q 3) ∧
  (¬ p1 = 98 →
  ¬ p1 = 104 →
  ¬ p1 = 110 →
  ¬ p1 = 115 →
  ¬ p1 = 119 →
  Q 0)
def wp_Reader_isFigure (p1 : Int) (Q : Int → Prop) : Prop :=
  (p1 < 48 →
  Q 0) ∧
  (¬ p1 < 48 →
  (57 < p1 →
   Q 0) ∧
   (¬ 57 < p1 →
   Q 1))
def wp_Reader_readNumbers (p2 : Int) (s0 : MS) (Q : Int → MS → Prop) : Prop :=
  (p2 < 1 →
  Q 0 s0) ∧
  (¬ p2 < 1 →
  (p2 ≤ 4 →
   Rng ((gI s0 15 1) + 1) ∧
    ∀ s1 : MS, s1 = sI s0 15 1 ((gI s0 15 1) + 1) →
    ∃ (I1 : Int → MS → Prop) (μ1 : Int → MS → Nat), I1 0 s1 ∧ ∀ (x1 : Int) (s2 : MS), I1 x1 s2 →
    Rng x1 ∧
    (p2 ≤ x1 →
    Q 1 s2) ∧
    (¬ p2 ≤ x1 →
    wp_Text_at (gI s2 15 1) s2 (fun (r1 : Int) =>
     wp_Reader_isFigure r1 (fun (r2 : Int) =>
      (¬ r2 = 0 →
       wp_Text_at (gI s2 15 1) s2 (fun (r3 : Int) =>
        (0 ≤ x1 ∧ x1 < 4) ∧
         Rng (r3 - 48) ∧
         ∀ s3 : MS, s3 = sI s2 16 x1 (r3 - 48) →
         Rng ((gI s3 15 1) + 1) ∧
         ∀ s4 : MS, s4 = sI s3 15 1 ((gI s3 15 1) + 1) →
         wp_Text_at (gI s4 15 1) s4 (fun (r4 : Int) =>
         wp_Reader_isFigure r4 (fun (r5 : Int) =>
          (r5 = 0 →
           wp_Text_at (gI s4 15 1) s4 (fun (r6 : Int) =>
            Rng (p2 - 1) ∧
             (¬ x1 = (p2 - 1) →
             (r6 = 44 →
              Rng ((gI s4 15 1) + 1) ∧
               ∀ s5 : MS, s5 = sI s4 15 1 ((gI s4 15 1) + 1) →
               ∀ x2 : Int, x2 = x1 + 1 →
               I1 x2 s5 ∧ μ1 x2 s5 < μ1 x1 s2) ∧
              (¬ r6 = 44 →
              Q 0 s4)) ∧
             (x1 = (p2 - 1) →
             (r6 = 59 →
              Rng ((gI s4 15 1) + 1) ∧
               ∀ s6 : MS, s6 = sI s4 15 1 ((gI s4 15 1) + 1) →
               ∀ x3 : Int, x3 = x1 + 1 →
               I1 x3 s6 ∧ μ1 x3 s6 < μ1 x1 s2) ∧
              (¬ r6 = 59 →
              Q 0 s4)))) ∧
           (¬ r5 = 0 →
           wp_Text_at (gI s4 15 1) s4 (fun (r7 : Int) =>
            Rng (((gI s4 16 x1) * 10) + (r7 - 48)) ∧
             ∀ s7 : MS, s7 = sI s4 16 x1 (((gI s4 16 x1) * 10) + (r7 - 48)) →
             Rng ((gI s7 15 1) + 1) ∧
             ∀ s8 : MS, s8 = sI s7 15 1 ((gI s7 15 1) + 1) →
             wp_Text_at (gI s8 15 1) s8 (fun (r8 : Int) =>
             Rng (p2 - 1) ∧
              (¬ x1 = (p2 - 1) →
              (r8 = 44 →
               Rng ((gI s8 15 1) + 1) ∧
                ∀ s9 : MS, s9 = sI s8 15 1 ((gI s8 15 1) + 1) →
                ∀ x4 : Int, x4 = x1 + 1 →
                I1 x4 s9 ∧ μ1 x4 s9 < μ1 x1 s2) ∧
               (¬ r8 = 44 →
               Q 0 s8)) ∧
              (x1 = (p2 - 1) →
              (r8 = 59 →
               Rng ((gI s8 15 1) + 1) ∧
                ∀ s10 : MS, s10 = sI s8 15 1 ((gI s8 15 1) + 1) →
                ∀ x5 : Int, x5 = x1 + 1 →
                I1 x5 s10 ∧ μ1 x5 s10 < μ1 x1 s2) ∧
               (¬ r8 = 59 →
               Q 0 s8))))))))) ∧
       (r2 = 0 →
       Q 0 s2))))) ∧
   (¬ p2 ≤ 4 →
   Q 0 s0))
def wp_Valley_addHome (v0 : Nat) (p1 : Int) (p2 : Int) (s0 : MS) (Q : Int → MS → Prop) : Prop :=
  (7 ≤ (gI s0 v0 5) →
  Q 0 s0) ∧
  (¬ 7 ≤ (gI s0 v0 5) →
  (3 < p1 →
   Q 0 s0) ∧
   (¬ 3 < p1 →
   (p2 ≤ 40 →
    (0 ≤ (gI s0 v0 5) ∧ (gI s0 v0 5) < 7) ∧
     ∀ s1 : MS, s1 = sI s0 (v0 + 1) (gI s0 v0 5) p1 →
     (0 ≤ (gI s1 v0 5) ∧ (gI s1 v0 5) < 7) ∧
     ∀ s2 : MS, s2 = sI s1 (v0 + 2) (gI s1 v0 5) p2 →
     Rng ((gI s2 v0 5) + 1) ∧
     ∀ s3 : MS, s3 = sI s2 v0 5 ((gI s2 v0 5) + 1) →
     Q 1 s3) ∧
    (¬ p2 ≤ 40 →
    Q 0 s0)))
def wp_Valley_has (v0 : Nat) (p1 : Int) (s0 : MS) (Q : Int → Prop) : Prop :=
  (p1 < 0 →
  Q 0) ∧
  (¬ p1 < 0 →
  ((gI s0 v0 5) ≤ p1 →
   Q 0) ∧
   (¬ (gI s0 v0 5) ≤ p1 →
   Q 1))
def wp_Valley_hasTwo (v0 : Nat) (p1 : Int) (p2 : Int) (s0 : MS) (Q : Int → Prop) : Prop :=
  wp_Valley_has v0 p1 s0 (fun (r1 : Int) =>
  (r1 = 0 →
   Q 0) ∧
   (¬ r1 = 0 →
   wp_Valley_has v0 p2 s0 (fun (r2 : Int) =>
    (r2 = 0 →
     Q 0) ∧
     (¬ r2 = 0 →
     (p1 = p2 →
      Q 0) ∧
      (¬ p1 = p2 →
      Q 1)))))
def wp_B_pairOf (p1 : Int) (p2 : Int) (Q : Int → Prop) : Prop :=
  Rng (((min p1 p2) * 7) + (max p1 p2)) ∧
  Q (((min p1 p2) * 7) + (max p1 p2))
def wp_Valley_addWay (v0 : Nat) (p1 : Int) (p2 : Int) (p3 : Int) (s0 : MS) (Q : Int → MS → Prop) : Prop :=
  wp_Valley_hasTwo v0 p1 p2 s0 (fun (r1 : Int) =>
  (r1 = 0 →
   Q 0 s0) ∧
   (¬ r1 = 0 →
   (p3 < 1 →
    Q 0 s0) ∧
    (¬ p3 < 1 →
    (p3 ≤ 60 →
     wp_B_pairOf p1 p2 (fun (r2 : Int) =>
      (0 ≤ r2 ∧ r2 < 49) ∧
       ∀ s1 : MS, s1 = sI s0 (v0 + 3) r2 p3 →
       Q 1 s1)) ∧
     (¬ p3 ≤ 60 →
     Q 0 s0))))
def wp_Valley_addSnow (v0 : Nat) (p1 : Int) (p2 : Int) (p3 : Int) (p4 : Int) (s0 : MS) (Q : Int → MS → Prop) : Prop :=
  wp_Valley_hasTwo v0 p1 p2 s0 (fun (r1 : Int) =>
  (r1 = 0 →
   Q 0 s0) ∧
   (¬ r1 = 0 →
   (28 ≤ p4 →
    Q 0 s0) ∧
    (¬ 28 ≤ p4 →
    (p3 ≤ p4 →
     wp_B_pairOf p1 p2 (fun (r2 : Int) =>
      (0 ≤ r2 ∧ r2 < 49) ∧
       ∀ s1 : MS, s1 = sI s0 (v0 + 4) r2 p3 →
       wp_B_pairOf p1 p2 (fun (r3 : Int) =>
       (0 ≤ r3 ∧ r3 < 49) ∧
        ∀ s2 : MS, s2 = sI s1 (v0 + 5) r3 p4 →
        Q 1 s2))) ∧
     (¬ p3 ≤ p4 →
     Q 0 s0))))
def wp_Valley_putBell (v0 : Nat) (p1 : Int) (s0 : MS) (Q : Int → MS → Prop) : Prop :=
  ∀ s1 : MS, s1 = sI s0 v0 6 p1 →
  (7 ≤ p1 →
  Q 0 s1) ∧
  (¬ 7 ≤ p1 →
  Q 1 s1)
def wp_Valley_limit (v0 : Nat) (p1 : Int) (s0 : MS) (Q : Int → MS → Prop) : Prop :=
  ∀ s1 : MS, s1 = sI s0 v0 7 p1 →
  (p1 < 1 →
  Q 0 s1) ∧
  (¬ p1 < 1 →
  Q 1 s1)
def wp_Reader_told (p1 : Nat) (p2 : Int) (s0 : MS) (Q : Int → MS → Prop) : Prop :=
  (p2 = 98 →
  wp_Valley_putBell p1 (gI s0 16 0) s0 (fun (r1 : Int) (s1 : MS) =>
   Q r1 s1)) ∧
  (p2 = 104 →
  wp_Valley_addHome p1 (gI s0 16 0) (gI s0 16 1) s0 (fun (r2 : Int) (s2 : MS) =>
   Q r2 s2)) ∧
  (p2 = 110 →
  wp_Valley_limit p1 (gI s0 16 0) s0 (fun (r3 : Int) (s3 : MS) =>
   Q r3 s3)) ∧
  (p2 = 115 →
  wp_Valley_addSnow p1 (gI s0 16 0) (gI s0 16 1) (gI s0 16 2) (gI s0 16 3) s0 (fun (r4 : Int) (s4 : MS) =>
   Q r4 s4)) ∧
  (p2 = 119 →
  wp_Valley_addWay p1 (gI s0 16 0) (gI s0 16 1) (gI s0 16 2) s0 (fun (r5 : Int) (s5 : MS) =>
   Q r5 s5)) ∧
  (¬ p2 = 98 →
  ¬ p2 = 104 →
  ¬ p2 = 110 →
  ¬ p2 = 115 →
  ¬ p2 = 119 →
  Q 0 s0)
def wp_Reader_readInto (p1 : Nat) (s0 : MS) (Q : Int → MS → Prop) : Prop :=
  wp_Valley_clear p1 s0 (fun s1 : MS =>
  ∀ s2 : MS, s2 = sI s1 15 1 0 →
   ∃ (I1 : Int → MS → Prop) (μ1 : Int → MS → Nat), I1 0 s2 ∧ ∀ (x1 : Int) (s3 : MS), I1 x1 s3 →
   Rng x1 ∧
   (200 ≤ x1 →
   Q (-4) s3) ∧
   (¬ 200 ≤ x1 →
   ((gI s3 13 1) ≤ (gI s3 15 1) →
    Q (-4) s3) ∧
    (¬ (gI s3 13 1) ≤ (gI s3 15 1) →
    wp_Text_at (gI s3 15 1) s3 (fun (r2 : Int) =>
     wp_Reader_numbersOf r2 (fun (r3 : Int) =>
      wp_Reader_readNumbers r3 s3 (fun (r4 : Int) (s4 : MS) =>
       (r4 = 0 →
        Q (gI s3 15 1) s4) ∧
        (¬ r4 = 0 →
        wp_Reader_told p1 r2 s4 (fun (r5 : Int) (s5 : MS) =>
         (¬ r5 = 0 →
          ∀ x2 : Int, x2 = x1 + 1 →
           I1 x2 s5 ∧ μ1 x2 s5 < μ1 x1 s3) ∧
          (r5 = 0 →
          Q (gI s3 15 1) s5)))))))))
def wp_B_fault (s0 : MS) (Q : Int → MS → Prop) : Prop :=
  wp_Reader_readInto (gR s0 0 1) s0 (fun (r1 : Int) (s1 : MS) =>
  Q r1 s1)
def wp_Noon_settle (p1 : Nat) (s0 : MS) (Q : MS → Prop) : Prop :=
  ∀ s1 : MS, s1 = sR s0 17 2 p1 →
  ∃ (I1 : Int → MS → Prop) (μ1 : Int → MS → Nat), I1 0 s1 ∧ ∀ (x1 : Int) (s2 : MS), I1 x1 s2 →
  Rng x1 ∧
  (28 ≤ x1 →
  Q s2) ∧
  (¬ 28 ≤ x1 →
  (0 ≤ x1 ∧ x1 < 28) ∧
   ∀ s3 : MS, s3 = sL s2 19 x1 (-1 : Int64) →
   ∀ x2 : Int, x2 = x1 + 1 →
   I1 x2 s3 ∧ μ1 x2 s3 < μ1 x1 s2)
def wp_Standing_begin (v0 : Nat) (p1 : Int) (s0 : MS) (Q : MS → Prop) : Prop :=
  ∀ s1 : MS, s1 = sI s0 v0 1 0 →
  ∀ s2 : MS, s2 = sI s1 v0 2 p1 →
  ∀ s3 : MS, s3 = sI s2 v0 3 0 →
  ∀ s4 : MS, s4 = sI s3 v0 4 0 →
  ∀ s5 : MS, s5 = sI s4 v0 5 (ishl 1 p1) →
  ∀ s6 : MS, s6 = sL s5 v0 6 (0 : Int64) →
  ∃ (I1 : Int → MS → Prop) (μ1 : Int → MS → Nat), I1 0 s6 ∧ ∀ (x1 : Int) (s7 : MS), I1 x1 s7 →
  Rng x1 ∧
  (7 ≤ x1 →
  Q s7) ∧
  (¬ 7 ≤ x1 →
  (0 ≤ x1 ∧ x1 < 7) ∧
   ∀ s8 : MS, s8 = sI s7 (v0 + 1) x1 0 →
   ∀ x2 : Int, x2 = x1 + 1 →
   I1 x2 s8 ∧ μ1 x2 s8 < μ1 x1 s7)
def wp_B_layText (s0 : MS) (Q : Int → MS → Prop) : Prop :=
  wp_Reader_readInto (gR s0 0 1) s0 (fun (r1 : Int) (s1 : MS) =>
  (¬ r1 = (-4) →
   Q 0 s1) ∧
   (r1 = (-4) →
   wp_Valley_has (gR s1 0 1) (gI s1 (gR s1 0 1) 6) s1 (fun (r2 : Int) =>
    (¬ r2 = 0 →
     ∀ s2 : MS, s2 = sR s1 0 0 (gR s1 0 1) →
      ∀ s3 : MS, s3 = sR s2 0 1 (gR s1 0 0) →
      wp_Noon_settle (gR s3 0 0) s3 (fun s4 : MS =>
      ∀ s5 : MS, s5 = sI s4 25 10 0 →
       wp_Standing_begin 36 (gI s5 (gR s5 0 0) 6) s5 (fun s6 : MS =>
       ∀ s7 : MS, s7 = sI s6 21 1 0 →
        ∀ s8 : MS, s8 = sI s7 23 1 0 →
        ∀ s9 : MS, s9 = sI s8 0 13 0 →
        Q 1 s9))) ∧
     (r2 = 0 →
     Q 0 s1))))
def wp_B_lay (s0 : MS) (Q : Int → MS → Prop) : Prop :=
  wp_B_layText s0 (fun (r1 : Int) (s1 : MS) =>
  (r1 = 0 →
   Q (-2) s1) ∧
   (¬ r1 = 0 →
   Q (gI s1 (gR s1 0 0) 5) s1))
def wp_B_home (p1 : Int) (p2 : Int) (s0 : MS) (Q : Int → Prop) : Prop :=
  wp_Valley_has (gR s0 0 0) p1 s0 (fun (r1 : Int) =>
  (r1 = 0 →
   Q (-1)) ∧
   (¬ r1 = 0 →
   (p2 < 0 →
    Q (-1)) ∧
    (¬ p2 < 0 →
    (p2 ≤ 6 →
     (p2 = 0 →
      (0 ≤ p1 ∧ p1 < 7) ∧
       Q (gI s0 ((gR s0 0 0) + 1) p1)) ∧
      (p2 = 1 →
      (0 ≤ p1 ∧ p1 < 7) ∧
       Q (gI s0 ((gR s0 0 0) + 2) p1)) ∧
      (p2 = 2 →
      (¬ (gI s0 36 2) = p1 →
       Q 0) ∧
       ((gI s0 36 2) = p1 →
       Q 1)) ∧
      (p2 = 3 →
      Q (iand (ishr (gI s0 36 5) p1) 1)) ∧
      (p2 = 4 →
      (0 ≤ p1 ∧ p1 < 7) ∧
       Q (gI s0 37 p1)) ∧
      (p2 = 5 →
      Q (iand (ishr (gI s0 36 4) p1) 1)) ∧
      (¬ p2 = 0 →
      ¬ p2 = 1 →
      ¬ p2 = 2 →
      ¬ p2 = 3 →
      ¬ p2 = 4 →
      ¬ p2 = 5 →
      Q (iand (ishr (gI s0 36 3) p1) 1))) ∧
     (¬ p2 ≤ 6 →
     Q (-1)))))
def wp_Valley_canBeGone (v0 : Nat) (p1 : Int) (p2 : Int) (p3 : Int64) (s0 : MS) (Q : Int → Prop) : Prop :=
  (0 ≤ p1 ∧ p1 < 49) ∧
  (p2 < (gI s0 (v0 + 4) p1) →
  ((gI s0 (v0 + 3) p1) ≤ 0 →
   Q 0) ∧
   (¬ (gI s0 (v0 + 3) p1) ≤ 0 →
   (¬ ((lshr p3 p1) &&& (1 : Int64)) = (0 : Int64) →
    Q 0) ∧
    (((lshr p3 p1) &&& (1 : Int64)) = (0 : Int64) →
    Q 1))) ∧
  (¬ p2 < (gI s0 (v0 + 4) p1) →
  ((gI s0 (v0 + 5) p1) < p2 →
   ((gI s0 (v0 + 3) p1) ≤ 0 →
    Q 0) ∧
    (¬ (gI s0 (v0 + 3) p1) ≤ 0 →
    (¬ ((lshr p3 p1) &&& (1 : Int64)) = (0 : Int64) →
     Q 0) ∧
     (((lshr p3 p1) &&& (1 : Int64)) = (0 : Int64) →
     Q 1))) ∧
   (¬ (gI s0 (v0 + 5) p1) < p2 →
   ((gI s0 (v0 + 3) p1) ≤ 0 →
    Q 0) ∧
    (¬ (gI s0 (v0 + 3) p1) ≤ 0 →
    Q 0)))
def wp_B_way (p1 : Int) (p2 : Int) (p3 : Int) (s0 : MS) (Q : Int → Prop) : Prop :=
  wp_Valley_hasTwo (gR s0 0 0) p1 p2 s0 (fun (r1 : Int) =>
  (r1 = 0 →
   Q (-1)) ∧
   (¬ r1 = 0 →
   (p3 < 0 →
    Q (-1)) ∧
    (¬ p3 < 0 →
    (p3 ≤ 1 →
     wp_B_pairOf p1 p2 (fun (r2 : Int) =>
      (0 ≤ r2 ∧ r2 < 49) ∧
       (¬ (gI s0 ((gR s0 0 0) + 3) r2) = 0 →
       (¬ p3 = 0 →
        (0 ≤ (gI s0 36 1) ∧ (gI s0 36 1) < 2147483648) ∧
         wp_Valley_canBeGone (gR s0 0 0) r2 ((gI s0 36 1) % 28) (gL s0 36 6) s0 (fun (r3 : Int) =>
         (r3 = 0 →
          Q 0) ∧
          (¬ r3 = 0 →
          Q 1))) ∧
        (p3 = 0 →
        Q (gI s0 ((gR s0 0 0) + 3) r2))) ∧
       ((gI s0 ((gR s0 0 0) + 3) r2) = 0 →
       Q (-4)))) ∧
     (¬ p3 ≤ 1 →
     Q (-1)))))
def wp_Noon_shortenBy (p1 : Int) (p2 : Int) (p3 : Int) (s0 : MS) (Q : MS → Prop) : Prop :=
  (0 ≤ ((p3 + (p2 * 7)) + p1) ∧ ((p3 + (p2 * 7)) + p1) < 1372) ∧
  ∃ (I1 : Int → MS → Prop) (μ1 : Int → MS → Nat), I1 0 s0 ∧ ∀ (x1 : Int) (s1 : MS), I1 x1 s1 →
  Rng x1 ∧
  ((gI s1 (gR s1 17 2) 5) ≤ x1 →
  Q s1) ∧
  (¬ (gI s1 (gR s1 17 2) 5) ≤ x1 →
  (0 ≤ ((p3 + (p1 * 7)) + x1) ∧ ((p3 + (p1 * 7)) + x1) < 1372) ∧
   ∀ x2 : Int, x2 = ((gI s0 18 ((p3 + (p2 * 7)) + p1)) + (gI s1 18 ((p3 + (p1 * 7)) + x1))) →
   ∀ x3 : Int, x3 = ((p3 + (p2 * 7)) + x1) →
   (0 ≤ x3 ∧ x3 < 1372) ∧
   Rng x2 ∧
   ∀ s2 : MS, s2 = sI s1 18 x3 (min (gI s1 18 x3) x2) →
   ∀ x4 : Int, x4 = x1 + 1 →
   I1 x4 s2 ∧ μ1 x4 s2 < μ1 x1 s1)
def wp_Noon_readyFars (p1 : Int) (p2 : Int64) (s0 : MS) (Q : Int → MS → Prop) : Prop :=
  (0 ≤ p1 ∧ p1 < 2147483648) ∧
  ∀ x1 : Int, x1 = (p1 % 28) →
  ∀ x2 : Int, x2 = (x1 * 49) →
  (0 ≤ x1 ∧ x1 < 28) ∧
  (¬ (gL s0 19 x1) = p2 →
  ∃ (I1 : Int → MS → Prop) (μ1 : Int → MS → Nat), I1 0 s0 ∧ ∀ (x3 : Int) (s1 : MS), I1 x3 s1 →
   Rng x3 ∧
   ((gI s1 (gR s1 17 2) 5) ≤ x3 →
   ∃ (I2 : Int → MS → Prop) (μ2 : Int → MS → Nat), I2 0 s1 ∧ ∀ (x4 : Int) (s2 : MS), I2 x4 s2 →
    Rng x4 ∧
    ((gI s2 (gR s2 17 2) 5) ≤ x4 →
    ∀ s3 : MS, s3 = sL s2 19 x1 p2 →
     Rng x2 ∧
     Q x2 s3) ∧
    (¬ (gI s2 (gR s2 17 2) 5) ≤ x4 →
    ∃ (I3 : Int → MS → Prop) (μ3 : Int → MS → Nat), I3 0 s2 ∧ ∀ (x5 : Int) (s4 : MS), I3 x5 s4 →
     Rng x5 ∧
     ((gI s4 (gR s4 17 2) 5) ≤ x5 →
     ∀ x6 : Int, x6 = x4 + 1 →
      I2 x6 s4 ∧ μ2 x6 s4 < μ2 x4 s2) ∧
     (¬ (gI s4 (gR s4 17 2) 5) ≤ x5 →
     Rng x2 ∧
      wp_Noon_shortenBy x4 x5 x2 s4 (fun s5 : MS =>
      ∀ x7 : Int, x7 = x5 + 1 →
       I3 x7 s5 ∧ μ3 x7 s5 < μ3 x5 s4)))) ∧
   (¬ (gI s1 (gR s1 17 2) 5) ≤ x3 →
   ∃ (I4 : Int → MS → Prop) (μ4 : Int → MS → Nat), I4 0 s1 ∧ ∀ (x8 : Int) (s6 : MS), I4 x8 s6 →
    Rng x8 ∧
    ((gI s6 (gR s6 17 2) 5) ≤ x8 →
    ∀ x9 : Int, x9 = x3 + 1 →
     I1 x9 s6 ∧ μ1 x9 s6 < μ1 x3 s1) ∧
    (¬ (gI s6 (gR s6 17 2) 5) ≤ x8 →
    wp_B_pairOf x3 x8 (fun (r2 : Int) =>
     wp_Valley_canBeGone (gR s6 17 2) r2 x1 p2 s6 (fun (r3 : Int) =>
      (r3 = 0 →
       (¬ x3 = x8 →
        (0 ≤ ((x2 + (x3 * 7)) + x8) ∧ ((x2 + (x3 * 7)) + x8) < 1372) ∧
         ∀ s7 : MS, s7 = sI s6 18 ((x2 + (x3 * 7)) + x8) 1000000 →
         ∀ x10 : Int, x10 = x8 + 1 →
         I4 x10 s7 ∧ μ4 x10 s7 < μ4 x8 s6) ∧
        (x3 = x8 →
        (0 ≤ ((x2 + (x3 * 7)) + x8) ∧ ((x2 + (x3 * 7)) + x8) < 1372) ∧
         ∀ s8 : MS, s8 = sI s6 18 ((x2 + (x3 * 7)) + x8) 0 →
         ∀ x11 : Int, x11 = x8 + 1 →
         I4 x11 s8 ∧ μ4 x11 s8 < μ4 x8 s6)) ∧
       (¬ r3 = 0 →
       (0 ≤ r2 ∧ r2 < 49) ∧
        (¬ x3 = x8 →
        (0 ≤ ((x2 + (x3 * 7)) + x8) ∧ ((x2 + (x3 * 7)) + x8) < 1372) ∧
         ∀ s9 : MS, s9 = sI s6 18 ((x2 + (x3 * 7)) + x8) (gI s6 ((gR s6 17 2) + 3) r2) →
         ∀ x12 : Int, x12 = x8 + 1 →
         I4 x12 s9 ∧ μ4 x12 s9 < μ4 x8 s6) ∧
        (x3 = x8 →
        (0 ≤ ((x2 + (x3 * 7)) + x8) ∧ ((x2 + (x3 * 7)) + x8) < 1372) ∧
         ∀ s10 : MS, s10 = sI s6 18 ((x2 + (x3 * 7)) + x8) 0 →
         ∀ x13 : Int, x13 = x8 + 1 →
         I4 x13 s10 ∧ μ4 x13 s10 < μ4 x8 s6))))))) ∧
  ((gL s0 19 x1) = p2 →
  Rng x2 ∧
   Q x2 s0)
def wp_Noon_farOn (p1 : Int) (p2 : Int64) (p3 : Int) (p4 : Int) (s0 : MS) (Q : Int → MS → Prop) : Prop :=
  wp_Noon_readyFars p1 p2 s0 (fun (r1 : Int) (s1 : MS) =>
  (0 ≤ ((r1 + (p3 * 7)) + p4) ∧ ((r1 + (p3 * 7)) + p4) < 1372) ∧
   (1000000 ≤ (gI s1 18 ((r1 + (p3 * 7)) + p4)) →
   Q (-4) s1) ∧
   (¬ 1000000 ≤ (gI s1 18 ((r1 + (p3 * 7)) + p4)) →
   Q (gI s1 18 ((r1 + (p3 * 7)) + p4)) s1))
def wp_B_far (p1 : Int) (p2 : Int) (s0 : MS) (Q : Int → MS → Prop) : Prop :=
  wp_Valley_has (gR s0 0 0) p1 s0 (fun (r1 : Int) =>
  (r1 = 0 →
   Q (-1) s0) ∧
   (¬ r1 = 0 →
   wp_Valley_has (gR s0 0 0) p2 s0 (fun (r2 : Int) =>
    (¬ r2 = 0 →
     wp_Noon_farOn (gI s0 36 1) (gL s0 36 6) p1 p2 s0 (fun (r3 : Int) (s1 : MS) =>
      Q r3 s1)) ∧
     (r2 = 0 →
     Q (-1) s0))))
def wp_Noon_walk (p1 : Int) (p2 : Int) (Q : Int → Prop) : Prop :=
  (¬ p2 = 1 →
  (¬ p2 = 2 →
   Q p1) ∧
   (p2 = 2 →
   (0 ≤ (p1 * 2) ∧ (p1 * 2) < 2147483648) ∧
    Q ((p1 * 2) / 3))) ∧
  (p2 = 1 →
  Rng (p1 * 2) ∧
   Q (p1 * 2))
def wp_Noon_timeOf (p1 : Nat) (p2 : Int) (p3 : Int) (s0 : MS) (Q : Int → Prop) : Prop :=
  ((iand (ishr (gI s0 p1 4) p2) 1) = 0 →
  ∀ x1 : Int, x1 = ((iand (ishr (gI s0 p1 3) p2) 1) * 20) →
   (¬ p2 = (gI s0 p1 2) →
   (0 ≤ ((p3 + (p2 * 7)) + (gI s0 p1 2)) ∧ ((p3 + (p2 * 7)) + (gI s0 p1 2)) < 1372) ∧
    ((gI s0 18 ((p3 + (p2 * 7)) + (gI s0 p1 2))) ≤ (gI s0 (gR s0 17 2) 7) →
    (0 ≤ p2 ∧ p2 < 7) ∧
     (¬ (gI s0 ((gR s0 17 2) + 1) p2) = 3 →
     wp_Noon_walk (gI s0 18 ((p3 + (p2 * 7)) + (gI s0 p1 2))) (gI s0 ((gR s0 17 2) + 1) p2) (fun (r1 : Int) =>
      Rng (((r1 + (gI s0 ((gR s0 17 2) + 2) p2)) + 0) + x1) ∧
       Q (((r1 + (gI s0 ((gR s0 17 2) + 2) p2)) + 0) + x1))) ∧
     ((gI s0 ((gR s0 17 2) + 1) p2) = 3 →
     wp_Noon_walk (gI s0 18 ((p3 + (p2 * 7)) + (gI s0 p1 2))) (gI s0 ((gR s0 17 2) + 1) p2) (fun (r2 : Int) =>
      Rng (((r2 + (gI s0 ((gR s0 17 2) + 2) p2)) + 15) + x1) ∧
       Q (((r2 + (gI s0 ((gR s0 17 2) + 2) p2)) + 15) + x1)))) ∧
    (¬ (gI s0 18 ((p3 + (p2 * 7)) + (gI s0 p1 2))) ≤ (gI s0 (gR s0 17 2) 7) →
    Q (-4))) ∧
   (p2 = (gI s0 p1 2) →
   Rng x1 ∧
    Q x1)) ∧
  (¬ (iand (ishr (gI s0 p1 4) p2) 1) = 0 →
  Q (-4))
def wp_Noon_gather (p1 : Nat) (s0 : MS) (Q : MS → Prop) : Prop :=
  ∀ s1 : MS, s1 = sI s0 17 4 (-4) →
  ∀ s2 : MS, s2 = sI s1 17 5 0 →
  wp_Noon_readyFars (gI s2 p1 1) (gL s2 p1 6) s2 (fun (r1 : Int) (s3 : MS) =>
  ∃ (I1 : Int → MS → Prop) (μ1 : Int → MS → Nat), I1 0 s3 ∧ ∀ (x1 : Int) (s4 : MS), I1 x1 s4 →
   Rng x1 ∧
   ((gI s4 (gR s4 17 2) 5) ≤ x1 →
   Q s4) ∧
   (¬ (gI s4 (gR s4 17 2) 5) ≤ x1 →
   wp_Noon_timeOf p1 x1 r1 s4 (fun (r2 : Int) =>
    (0 ≤ x1 ∧ x1 < 7) ∧
     ∀ s5 : MS, s5 = sI s4 20 x1 r2 →
     (¬ (gI s5 20 x1) = (-4) →
     Rng ((gI s5 17 5) + 1) ∧
      ∀ s6 : MS, s6 = sI s5 17 5 ((gI s5 17 5) + 1) →
      ((gI s6 17 4) = (-4) →
      ∀ s7 : MS, s7 = sI s6 17 4 x1 →
       ∀ x2 : Int, x2 = x1 + 1 →
       I1 x2 s7 ∧ μ1 x2 s7 < μ1 x1 s4) ∧
      (¬ (gI s6 17 4) = (-4) →
      (0 ≤ (gI s6 17 4) ∧ (gI s6 17 4) < 7) ∧
       ((gI s6 20 x1) < (gI s6 20 (gI s6 17 4)) →
       ∀ x3 : Int, x3 = x1 + 1 →
        I1 x3 s6 ∧ μ1 x3 s6 < μ1 x1 s4) ∧
       (¬ (gI s6 20 x1) < (gI s6 20 (gI s6 17 4)) →
       ∀ s8 : MS, s8 = sI s6 17 4 x1 →
        ∀ x4 : Int, x4 = x1 + 1 →
        I1 x4 s8 ∧ μ1 x4 s8 < μ1 x1 s4))) ∧
     ((gI s5 20 x1) = (-4) →
     ∀ x5 : Int, x5 = x1 + 1 →
      I1 x5 s5 ∧ μ1 x5 s5 < μ1 x1 s4))))
def wp_B_comes (p1 : Int) (s0 : MS) (Q : Int → MS → Prop) : Prop :=
  wp_Valley_has (gR s0 0 0) p1 s0 (fun (r1 : Int) =>
  (¬ r1 = 0 →
   wp_Noon_gather 36 s0 (fun s1 : MS =>
    (0 ≤ p1 ∧ p1 < 7) ∧
     Q (gI s1 20 p1) s1)) ∧
   (r1 = 0 →
   Q (-1) s0))
def wp_B_last (s0 : MS) (Q : Int → MS → Prop) : Prop :=
  wp_Noon_gather 36 s0 (fun s1 : MS =>
  Q (gI s1 17 4) s1)
def wp_Standing_copy (v0 : Nat) (p1 : Nat) (s0 : MS) (Q : MS → Prop) : Prop :=
  ∀ s1 : MS, s1 = sI s0 v0 1 (gI s0 p1 1) →
  ∀ s2 : MS, s2 = sI s1 v0 2 (gI s1 p1 2) →
  ∀ s3 : MS, s3 = sI s2 v0 3 (gI s2 p1 3) →
  ∀ s4 : MS, s4 = sI s3 v0 4 (gI s3 p1 4) →
  ∀ s5 : MS, s5 = sI s4 v0 5 (gI s4 p1 5) →
  ∀ s6 : MS, s6 = sL s5 v0 6 (gL s5 p1 6) →
  ∃ (I1 : Int → MS → Prop) (μ1 : Int → MS → Nat), I1 0 s6 ∧ ∀ (x1 : Int) (s7 : MS), I1 x1 s7 →
  Rng x1 ∧
  (7 ≤ x1 →
  Q s7) ∧
  (¬ 7 ≤ x1 →
  (0 ≤ x1 ∧ x1 < 7) ∧
   ∀ s8 : MS, s8 = sI s7 (v0 + 1) x1 (gI s7 (p1 + 1) x1) →
   ∀ x2 : Int, x2 = x1 + 1 →
   I1 x2 s8 ∧ μ1 x2 s8 < μ1 x1 s7)
def wp_Shelf_put21 (p1 : Nat) (s0 : MS) (Q : Int → MS → Prop) : Prop :=
  ((gI s0 21 1) < 0 →
  Q 0 s0) ∧
  (¬ (gI s0 21 1) < 0 →
  ((gI s0 21 1) < 8 →
   (0 ≤ (gI s0 21 1) ∧ (gI s0 21 1) < 8) ∧
    wp_Standing_copy (gR s0 22 (gI s0 21 1)) p1 s0 (fun s1 : MS =>
    Rng ((gI s1 21 1) + 1) ∧
     ∀ s2 : MS, s2 = sI s1 21 1 ((gI s1 21 1) + 1) →
     Q 1 s2)) ∧
   (¬ (gI s0 21 1) < 8 →
   Q 0 s0))
def wp_Shelf_putDroppingOldest21 (p1 : Nat) (s0 : MS) (Q : MS → Prop) : Prop :=
  ((gI s0 21 1) < 8 →
  wp_Shelf_put21 p1 s0 (fun (r1 : Int) (s1 : MS) =>
   Q s1)) ∧
  (¬ (gI s0 21 1) < 8 →
  ∃ (I1 : Int → MS → Prop) (μ1 : Int → MS → Nat), I1 1 s0 ∧ ∀ (x1 : Int) (s2 : MS), I1 x1 s2 →
   Rng x1 ∧
   (8 ≤ x1 →
   ∀ s3 : MS, s3 = sR s2 22 (8 - 1) (gR s0 22 0) →
    ∀ s4 : MS, s4 = sI s3 21 1 (8 - 1) →
    wp_Shelf_put21 p1 s4 (fun (r2 : Int) (s5 : MS) =>
    Q s5)) ∧
   (¬ 8 ≤ x1 →
   (0 ≤ x1 ∧ x1 < 8) ∧
    (0 ≤ (x1 - 1) ∧ (x1 - 1) < 8) ∧
    ∀ s6 : MS, s6 = sR s2 22 (x1 - 1) (gR s2 22 x1) →
    ∀ x2 : Int, x2 = x1 + 1 →
    I1 x2 s6 ∧ μ1 x2 s6 < μ1 x1 s2))
def wp_Shelf_put23 (p1 : Nat) (s0 : MS) (Q : Int → MS → Prop) : Prop :=
  ((gI s0 23 1) < 0 →
  Q 0 s0) ∧
  (¬ (gI s0 23 1) < 0 →
  ((gI s0 23 1) < 2 →
   (0 ≤ (gI s0 23 1) ∧ (gI s0 23 1) < 2) ∧
    wp_Standing_copy (gR s0 24 (gI s0 23 1)) p1 s0 (fun s1 : MS =>
    Rng ((gI s1 23 1) + 1) ∧
     ∀ s2 : MS, s2 = sI s1 23 1 ((gI s1 23 1) + 1) →
     Q 1 s2)) ∧
   (¬ (gI s0 23 1) < 2 →
   Q 0 s0))
def wp_Shelf_putDroppingOldest23 (p1 : Nat) (s0 : MS) (Q : MS → Prop) : Prop :=
  ((gI s0 23 1) < 2 →
  wp_Shelf_put23 p1 s0 (fun (r1 : Int) (s1 : MS) =>
   Q s1)) ∧
  (¬ (gI s0 23 1) < 2 →
  ∃ (I1 : Int → MS → Prop) (μ1 : Int → MS → Nat), I1 1 s0 ∧ ∀ (x1 : Int) (s2 : MS), I1 x1 s2 →
   Rng x1 ∧
   (2 ≤ x1 →
   ∀ s3 : MS, s3 = sR s2 24 (2 - 1) (gR s0 24 0) →
    ∀ s4 : MS, s4 = sI s3 23 1 (2 - 1) →
    wp_Shelf_put23 p1 s4 (fun (r2 : Int) (s5 : MS) =>
    Q s5)) ∧
   (¬ 2 ≤ x1 →
   (0 ≤ x1 ∧ x1 < 2) ∧
    (0 ≤ (x1 - 1) ∧ (x1 - 1) < 2) ∧
    ∀ s6 : MS, s6 = sR s2 24 (x1 - 1) (gR s2 24 x1) →
    ∀ x2 : Int, x2 = x1 + 1 →
    I1 x2 s6 ∧ μ1 x2 s6 < μ1 x1 s2))
def wp_Noon_goBy (p1 : Nat) (s0 : MS) (Q : MS → Prop) : Prop :=
  wp_Noon_gather p1 s0 (fun s1 : MS =>
  (0 ≤ (gI s1 p1 2) ∧ (gI s1 p1 2) < 7) ∧
   Rng ((gI s1 (p1 + 1) (gI s1 p1 2)) + (gI s1 17 5)) ∧
   ∀ s2 : MS, s2 = sI s1 (p1 + 1) (gI s1 p1 2) ((gI s1 (p1 + 1) (gI s1 p1 2)) + (gI s1 17 5)) →
   ((gI s2 17 4) = (-4) →
   ∀ s3 : MS, s3 = sI s2 p1 5 (ior (gI s2 p1 5) (ishl 1 (gI s2 p1 2))) →
    ∀ s4 : MS, s4 = sI s3 p1 3 0 →
    Rng ((gI s4 p1 1) + 1) ∧
    ∀ s5 : MS, s5 = sI s4 p1 1 ((gI s4 p1 1) + 1) →
    Q s5) ∧
   (¬ (gI s2 17 4) = (-4) →
   ∀ s6 : MS, s6 = sI s2 p1 2 (gI s2 17 4) →
    ∀ s7 : MS, s7 = sI s6 p1 5 (ior (gI s6 p1 5) (ishl 1 (gI s6 p1 2))) →
    ∀ s8 : MS, s8 = sI s7 p1 3 0 →
    Rng ((gI s8 p1 1) + 1) ∧
    ∀ s9 : MS, s9 = sI s8 p1 1 ((gI s8 p1 1) + 1) →
    Q s9))
def wp_B_goBy (p1 : Nat) (p2 : Int) (s0 : MS) (Q : MS → Prop) : Prop :=
  ∃ (I1 : Int → MS → Prop) (μ1 : Int → MS → Nat), I1 0 s0 ∧ ∀ (x1 : Int) (s1 : MS), I1 x1 s1 →
  Rng x1 ∧
  (p2 ≤ x1 →
  Q s1) ∧
  (¬ p2 ≤ x1 →
  wp_Noon_goBy p1 s1 (fun s2 : MS =>
   ∀ x2 : Int, x2 = x1 + 1 →
    I1 x2 s2 ∧ μ1 x2 s2 < μ1 x1 s1))
def wp_B_pass (p1 : Int) (s0 : MS) (Q : Int → MS → Prop) : Prop :=
  (p1 < 1 →
  Q (-1) s0) ∧
  (¬ p1 < 1 →
  (p1 ≤ 28 →
   wp_Shelf_putDroppingOldest21 36 s0 (fun s1 : MS =>
    wp_B_goBy 36 p1 s1 (fun s2 : MS =>
     Q (gI s2 36 2) s2))) ∧
   (¬ p1 ≤ 28 →
   Q (-1) s0))
def wp_B_keepBack (p1 : Int) (s0 : MS) (Q : Int → MS → Prop) : Prop :=
  wp_Valley_has (gR s0 0 0) p1 s0 (fun (r1 : Int) =>
  (¬ r1 = 0 →
   wp_Shelf_putDroppingOldest21 36 s0 (fun s1 : MS =>
    ∀ s2 : MS, s2 = sI s1 36 3 (ixor (gI s1 36 3) (ishl 1 p1)) →
     Q (iand (ishr (gI s2 36 3) p1) 1) s2)) ∧
   (r1 = 0 →
   Q (-1) s0))
def wp_B_sick (p1 : Int) (s0 : MS) (Q : Int → MS → Prop) : Prop :=
  wp_Valley_has (gR s0 0 0) p1 s0 (fun (r1 : Int) =>
  (¬ r1 = 0 →
   wp_Shelf_putDroppingOldest21 36 s0 (fun s1 : MS =>
    ∀ s2 : MS, s2 = sI s1 36 4 (ixor (gI s1 36 4) (ishl 1 p1)) →
     Q (iand (ishr (gI s2 36 4) p1) 1) s2)) ∧
   (r1 = 0 →
   Q (-1) s0))
def wp_B_shut (p1 : Int) (p2 : Int) (s0 : MS) (Q : Int → MS → Prop) : Prop :=
  wp_Valley_hasTwo (gR s0 0 0) p1 p2 s0 (fun (r1 : Int) =>
  (¬ r1 = 0 →
   wp_B_pairOf p1 p2 (fun (r2 : Int) =>
    (0 ≤ r2 ∧ r2 < 49) ∧
     (¬ (gI s0 ((gR s0 0 0) + 3) r2) = 0 →
     wp_Shelf_putDroppingOldest21 36 s0 (fun s1 : MS =>
      ∀ s2 : MS, s2 = sL s1 36 6 ((gL s1 36 6) ^^^ (lshl (1 : Int64) r2)) →
       (((lshr (gL s2 36 6) r2) &&& (1 : Int64)) = (0 : Int64) →
       Q 0 s2) ∧
       (¬ ((lshr (gL s2 36 6) r2) &&& (1 : Int64)) = (0 : Int64) →
       Q 1 s2))) ∧
     ((gI s0 ((gR s0 0 0) + 3) r2) = 0 →
     Q (-2) s0))) ∧
   (r1 = 0 →
   Q (-1) s0))
def wp_Shelf_takeInto21 (p1 : Nat) (s0 : MS) (Q : Int → MS → Prop) : Prop :=
  ((gI s0 21 1) < 1 →
  Q 0 s0) ∧
  (¬ (gI s0 21 1) < 1 →
  ((gI s0 21 1) ≤ 8 →
   Rng ((gI s0 21 1) - 1) ∧
    ∀ s1 : MS, s1 = sI s0 21 1 ((gI s0 21 1) - 1) →
    (0 ≤ (gI s1 21 1) ∧ (gI s1 21 1) < 8) ∧
    wp_Standing_copy p1 (gR s1 22 (gI s1 21 1)) s1 (fun s2 : MS =>
    Q 1 s2)) ∧
   (¬ (gI s0 21 1) ≤ 8 →
   Q 0 s0))
def wp_Shelf_takeInto23 (p1 : Nat) (s0 : MS) (Q : Int → MS → Prop) : Prop :=
  ((gI s0 23 1) < 1 →
  Q 0 s0) ∧
  (¬ (gI s0 23 1) < 1 →
  ((gI s0 23 1) ≤ 2 →
   Rng ((gI s0 23 1) - 1) ∧
    ∀ s1 : MS, s1 = sI s0 23 1 ((gI s0 23 1) - 1) →
    (0 ≤ (gI s1 23 1) ∧ (gI s1 23 1) < 2) ∧
    wp_Standing_copy p1 (gR s1 24 (gI s1 23 1)) s1 (fun s2 : MS =>
    Q 1 s2)) ∧
   (¬ (gI s0 23 1) ≤ 2 →
   Q 0 s0))
def wp_B_undo (s0 : MS) (Q : Int → MS → Prop) : Prop :=
  wp_Shelf_takeInto21 36 s0 (fun (r1 : Int) (s1 : MS) =>
  (r1 = 0 →
   Q (-2) s1) ∧
   (¬ r1 = 0 →
   Q (gI s1 21 1) s1))
def wp_B_behind (p1 : Int) (s0 : MS) (Q : Int → MS → Prop) : Prop :=
  (p1 < 0 →
  Q (-1) s0) ∧
  (¬ p1 < 0 →
  (p1 ≤ 60 →
   wp_Standing_copy 38 36 s0 (fun s1 : MS =>
    wp_B_goBy 38 p1 s1 (fun s2 : MS =>
     Q (gI s2 38 2) s2))) ∧
   (¬ p1 ≤ 60 →
   Q (-1) s0))
def wp_B_again (s0 : MS) (Q : Int → MS → Prop) : Prop :=
  wp_Standing_copy 38 36 s0 (fun s1 : MS =>
  ∃ (I1 : Int → MS → Prop) (μ1 : Int → MS → Nat), I1 1 s1 ∧ ∀ (x1 : Int) (s2 : MS), I1 x1 s2 →
   Rng x1 ∧
   (56 < x1 →
   Q (-4) s2) ∧
   (¬ 56 < x1 →
   wp_Noon_goBy 38 s2 (fun s3 : MS =>
    (¬ (gI s3 38 2) = (gI s3 36 2) →
     ∀ x2 : Int, x2 = x1 + 1 →
      I1 x2 s3 ∧ μ1 x2 s3 < μ1 x1 s2) ∧
     ((gI s3 38 2) = (gI s3 36 2) →
     Q x1 s3))))
def wp_Standing_isLike (v0 : Nat) (p1 : Nat) (s0 : MS) (Q : Int → Prop) : Prop :=
  (¬ (gI s0 v0 1) = (gI s0 p1 1) →
  Q 0) ∧
  ((gI s0 v0 1) = (gI s0 p1 1) →
  (¬ (gI s0 v0 2) = (gI s0 p1 2) →
   Q 0) ∧
   ((gI s0 v0 2) = (gI s0 p1 2) →
   (¬ (gI s0 v0 4) = (gI s0 p1 4) →
    Q 0) ∧
    ((gI s0 v0 4) = (gI s0 p1 4) →
    (¬ (gI s0 v0 5) = (gI s0 p1 5) →
     Q 0) ∧
     ((gI s0 v0 5) = (gI s0 p1 5) →
     (¬ (gL s0 v0 6) = (gL s0 p1 6) →
      Q 0) ∧
      ((gL s0 v0 6) = (gL s0 p1 6) →
      Q 1)))))
def wp_Noon_homes (s0 : MS) (Q : Int → Prop) : Prop :=
  Q (gI s0 (gR s0 17 2) 5)
def wp_Search_numberMissing (s0 : MS) (Q : MS → Prop) : Prop :=
  ∃ (I1 : Int → Int → MS → Prop) (μ1 : Int → Int → MS → Nat), I1 0 0 s0 ∧ ∀ (x1 : Int) (x2 : Int) (s1 : MS), I1 x1 x2 s1 →
  Rng x2 ∧
  (7 ≤ x2 →
  Rng ((ishl 1 x1) - 1) ∧
   ∀ s2 : MS, s2 = sI s1 25 7 ((ishl 1 x1) - 1) →
   Q s2) ∧
  (¬ 7 ≤ x2 →
  ((gI s1 25 6) ≤ x2 →
   (0 ≤ x2 ∧ x2 < 7) ∧
    ∀ s3 : MS, s3 = sI s1 29 x2 (-4) →
    ∀ x3 : Int, x3 = (x1 + 0) →
    ∀ x4 : Int, x4 = x2 + 1 →
    I1 x3 x4 s3 ∧ μ1 x3 x4 s3 < μ1 x1 x2 s1) ∧
   (¬ (gI s1 25 6) ≤ x2 →
   (¬ (iand (ishr (gI s1 60 5) x2) 1) = 0 →
    (0 ≤ x2 ∧ x2 < 7) ∧
     ∀ s4 : MS, s4 = sI s1 29 x2 (-4) →
     ∀ x5 : Int, x5 = (x1 + 0) →
     ∀ x6 : Int, x6 = x2 + 1 →
     I1 x5 x6 s4 ∧ μ1 x5 x6 s4 < μ1 x1 x2 s1) ∧
    ((iand (ishr (gI s1 60 5) x2) 1) = 0 →
    Rng x1 ∧
     (6 ≤ x1 →
     (0 ≤ x2 ∧ x2 < 7) ∧
      ∀ s5 : MS, s5 = sI s1 29 x2 (-4) →
      ∀ x7 : Int, x7 = (x1 + 1) →
      ∀ x8 : Int, x8 = x2 + 1 →
      I1 x7 x8 s5 ∧ μ1 x7 x8 s5 < μ1 x1 x2 s1) ∧
     (¬ 6 ≤ x1 →
     (0 ≤ x2 ∧ x2 < 7) ∧
      ∀ s6 : MS, s6 = sI s1 29 x2 x1 →
      ∀ x9 : Int, x9 = (x1 + 1) →
      ∀ x10 : Int, x10 = x2 + 1 →
      I1 x9 x10 s6 ∧ μ1 x9 x10 s6 < μ1 x1 x2 s1))))
def wp_Search_begin (p1 : Nat) (p2 : Int) (s0 : MS) (Q : MS → Prop) : Prop :=
  ∀ s1 : MS, s1 = sI s0 25 10 1 →
  wp_Standing_copy 60 p1 s1 (fun s2 : MS =>
  wp_Standing_copy 62 p1 s2 (fun s3 : MS =>
   ∀ s4 : MS, s4 = sI s3 62 3 0 →
    ∀ s5 : MS, s5 = sI s4 25 6 p2 →
    wp_Search_numberMissing s5 (fun s6 : MS =>
    ∃ (I1 : Int → MS → Prop) (μ1 : Int → MS → Nat), I1 0 s6 ∧ ∀ (x1 : Int) (s7 : MS), I1 x1 s7 →
     Rng x1 ∧
     (203 ≤ x1 →
     (0 ≤ (gI s7 p1 2) ∧ (gI s7 p1 2) < 203) ∧
      ∀ s8 : MS, s8 = sL s7 26 (gI s7 p1 2) (1 : Int64) →
      Q s8) ∧
     (¬ 203 ≤ x1 →
     (0 ≤ x1 ∧ x1 < 203) ∧
      ∀ s9 : MS, s9 = sL s7 26 x1 (0 : Int64) →
      ∀ x2 : Int, x2 = x1 + 1 →
      I1 x2 s9 ∧ μ1 x2 s9 < μ1 x1 s7))))
def wp_Search_isWholeBy (p1 : Int) (s0 : MS) (Q : Int → Prop) : Prop :=
  ∃ (I1 : Int → Prop) (μ1 : Int → Nat), I1 0 ∧ ∀ (x1 : Int), I1 x1 →
  Rng x1 ∧
  ((gI s0 25 6) ≤ x1 →
  Q 0) ∧
  (¬ (gI s0 25 6) ≤ x1 →
  (0 ≤ ((p1 * 7) + x1) ∧ ((p1 * 7) + x1) < 203) ∧
   (((lushr (gL s0 26 ((p1 * 7) + x1)) (gI s0 25 7)) &&& (1 : Int64)) = (0 : Int64) →
   ∀ x2 : Int, x2 = x1 + 1 →
    I1 x2 ∧ μ1 x2 < μ1 x1) ∧
   (¬ ((lushr (gL s0 26 ((p1 * 7) + x1)) (gI s0 25 7)) &&& (1 : Int64)) = (0 : Int64) →
   Q 1))
def wp_Noon_latestHolding (p1 : Int) (s0 : MS) (Q : Int → Prop) : Prop :=
  ((gI s0 17 4) = (-4) →
  Q (gI s0 17 4)) ∧
  (¬ (gI s0 17 4) = (-4) →
  (0 ≤ p1 ∧ p1 < 7) ∧
   (¬ (gI s0 20 p1) = (-4) →
   ∀ x1 : Int, x1 = ((gI s0 20 p1) + 20) →
    (0 ≤ (gI s0 17 4) ∧ (gI s0 17 4) < 7) ∧
    Rng x1 ∧
    ((gI s0 20 (gI s0 17 4)) < x1 →
    Q p1) ∧
    (¬ (gI s0 20 (gI s0 17 4)) < x1 →
    (¬ x1 = (gI s0 20 (gI s0 17 4)) →
     Q (gI s0 17 4)) ∧
     (x1 = (gI s0 20 (gI s0 17 4)) →
     (p1 ≤ (gI s0 17 4) →
      Q (gI s0 17 4)) ∧
      (¬ p1 ≤ (gI s0 17 4) →
      Q p1)))) ∧
   ((gI s0 20 p1) = (-4) →
   Q (gI s0 17 4)))
def wp_Search_placeOf (p1 : Int) (p2 : Int) (p3 : Int) (Q : Int → Prop) : Prop :=
  Rng ((((p1 * 7) + p2) * 8) + p3) ∧
  Q ((((p1 * 7) + p2) * 8) + p3)
def wp_Search_joined (p1 : Int64) (p2 : Int) (s0 : MS) (Q : Int64 → Prop) : Prop :=
  (p2 < 0 →
  Q p1) ∧
  (¬ p2 < 0 →
  (p2 < 6 →
   (0 ≤ p2 ∧ p2 < 6) ∧
    ∀ y1 : Int64, y1 = (HOLD p2) →
    Q ((p1 &&& y1) ||| (lshl (p1 &&& (y1 ^^^ (-1 : Int64))) (ishl 1 p2)))) ∧
   (¬ p2 < 6 →
   Q p1))
def wp_Search_spread (p2 : Int) (s0 : MS) (Q : MS → Prop) : Prop :=
  Rng ((gI s0 60 1) + p2) ∧
  ∀ s1 : MS, s1 = sI s0 62 1 ((gI s0 60 1) + p2) →
  ∃ (I1 : Int → MS → Prop) (μ1 : Int → MS → Nat), I1 0 s1 ∧ ∀ (x1 : Int) (s2 : MS), I1 x1 s2 →
  Rng x1 ∧
  ((gI s2 25 6) ≤ x1 →
  Q s2) ∧
  (¬ (gI s2 25 6) ≤ x1 →
  (0 ≤ ((p2 * 7) + x1) ∧ ((p2 * 7) + x1) < 203) ∧
   ∀ y1 : Int64, y1 = (gL s2 26 ((p2 * 7) + x1)) →
   (¬ y1 = (0 : Int64) →
   ∀ s3 : MS, s3 = sI s2 62 2 x1 →
    wp_Noon_gather 62 s3 (fun s4 : MS =>
    ∃ (I2 : Int → MS → Prop) (μ2 : Int → MS → Nat), I2 0 s4 ∧ ∀ (x2 : Int) (s5 : MS), I2 x2 s5 →
     Rng x2 ∧
     ((gI s5 25 6) < x2 →
     ∀ x3 : Int, x3 = x1 + 1 →
      I1 x3 s5 ∧ μ1 x3 s5 < μ1 x1 s2) ∧
     (¬ (gI s5 25 6) < x2 →
     (¬ x2 = 0 →
      Rng (x2 - 1) ∧
       wp_Noon_latestHolding (x2 - 1) s5 (fun (r2 : Int) =>
       (¬ r2 = (-4) →
        wp_Search_placeOf p2 x1 x2 (fun (r3 : Int) =>
         (0 ≤ r3 ∧ r3 < 1568) ∧
          ∀ s6 : MS, s6 = sI s5 28 r3 r2 →
          (0 ≤ (((p2 + 1) * 7) + r2) ∧ (((p2 + 1) * 7) + r2) < 203) ∧
          (0 ≤ r2 ∧ r2 < 7) ∧
          wp_Search_joined y1 (gI s6 29 r2) s6 (fun (r4 : Int64) =>
          ∀ s7 : MS, s7 = sL s6 26 (((p2 + 1) * 7) + r2) ((gL s6 26 (((p2 + 1) * 7) + r2)) ||| r4) →
           ∀ x4 : Int, x4 = x2 + 1 →
           I2 x4 s7 ∧ μ2 x4 s7 < μ2 x2 s5))) ∧
        (r2 = (-4) →
        wp_Search_placeOf p2 x1 x2 (fun (r5 : Int) =>
         (0 ≤ r5 ∧ r5 < 1568) ∧
          ∀ s8 : MS, s8 = sI s5 28 r5 x1 →
          (0 ≤ (((p2 + 1) * 7) + x1) ∧ (((p2 + 1) * 7) + x1) < 203) ∧
          (0 ≤ x1 ∧ x1 < 7) ∧
          wp_Search_joined y1 (gI s8 29 x1) s8 (fun (r6 : Int64) =>
          ∀ s9 : MS, s9 = sL s8 26 (((p2 + 1) * 7) + x1) ((gL s8 26 (((p2 + 1) * 7) + x1)) ||| r6) →
           ∀ x5 : Int, x5 = x2 + 1 →
           I2 x5 s9 ∧ μ2 x5 s9 < μ2 x2 s5))))) ∧
      (x2 = 0 →
      (¬ (gI s5 17 4) = (-4) →
       wp_Search_placeOf p2 x1 x2 (fun (r7 : Int) =>
        (0 ≤ r7 ∧ r7 < 1568) ∧
         ∀ s10 : MS, s10 = sI s5 28 r7 (gI s5 17 4) →
         (0 ≤ (((p2 + 1) * 7) + (gI s5 17 4)) ∧ (((p2 + 1) * 7) + (gI s5 17 4)) < 203) ∧
         (0 ≤ (gI s5 17 4) ∧ (gI s5 17 4) < 7) ∧
         wp_Search_joined y1 (gI s10 29 (gI s5 17 4)) s10 (fun (r8 : Int64) =>
         ∀ s11 : MS, s11 = sL s10 26 (((p2 + 1) * 7) + (gI s5 17 4)) ((gL s10 26 (((p2 + 1) * 7) + (gI s5 17 4))) ||| r8) →
          ∀ x6 : Int, x6 = x2 + 1 →
          I2 x6 s11 ∧ μ2 x6 s11 < μ2 x2 s5))) ∧
       ((gI s5 17 4) = (-4) →
       wp_Search_placeOf p2 x1 x2 (fun (r9 : Int) =>
        (0 ≤ r9 ∧ r9 < 1568) ∧
         ∀ s12 : MS, s12 = sI s5 28 r9 x1 →
         (0 ≤ (((p2 + 1) * 7) + x1) ∧ (((p2 + 1) * 7) + x1) < 203) ∧
         (0 ≤ x1 ∧ x1 < 7) ∧
         wp_Search_joined y1 (gI s12 29 x1) s12 (fun (r10 : Int64) =>
         ∀ s13 : MS, s13 = sL s12 26 (((p2 + 1) * 7) + x1) ((gL s12 26 (((p2 + 1) * 7) + x1)) ||| r10) →
          ∀ x7 : Int, x7 = x2 + 1 →
          I2 x7 s13 ∧ μ2 x7 s13 < μ2 x2 s5))))))) ∧
   (y1 = (0 : Int64) →
   ∀ x8 : Int, x8 = x1 + 1 →
    I1 x8 s2 ∧ μ1 x8 s2 < μ1 x1 s2))
def wp_Search_before (p1 : Int64) (p2 : Int) (s0 : MS) (Q : Int64 → Prop) : Prop :=
  (p2 < 0 →
  Q p1) ∧
  (¬ p2 < 0 →
  (p2 < 6 →
   (0 ≤ p2 ∧ p2 < 6) ∧
    ∀ y1 : Int64, y1 = (p1 &&& (HOLD p2)) →
    Q (y1 ||| (lushr y1 (ishl 1 p2)))) ∧
   (¬ p2 < 6 →
   Q p1))
def wp_Search_hopesFrom (p1 : Int) (p2 : Int) (s0 : MS) (Q : Int64 → Prop) : Prop :=
  (0 ≤ ((p1 * 7) + p2) ∧ ((p1 * 7) + p2) < 203) ∧
  (¬ (gL s0 26 ((p1 * 7) + p2)) = (0 : Int64) →
  ∃ (I1 : Int64 → Int → Prop) (μ1 : Int64 → Int → Nat), I1 (0 : Int64) 0 ∧ ∀ (y1 : Int64) (x1 : Int), I1 y1 x1 →
   Rng x1 ∧
   ((gI s0 25 6) < x1 →
   Q y1) ∧
   (¬ (gI s0 25 6) < x1 →
   wp_Search_placeOf p1 p2 x1 (fun (r1 : Int) =>
    (0 ≤ r1 ∧ r1 < 1568) ∧
     (0 ≤ (((p1 + 1) * 7) + (gI s0 28 r1)) ∧ (((p1 + 1) * 7) + (gI s0 28 r1)) < 203) ∧
     (0 ≤ (gI s0 28 r1) ∧ (gI s0 28 r1) < 7) ∧
     wp_Search_before (gL s0 27 (((p1 + 1) * 7) + (gI s0 28 r1))) (gI s0 29 (gI s0 28 r1)) s0 (fun (r2 : Int64) =>
     ∀ y2 : Int64, y2 = (y1 ||| r2) →
      ∀ x2 : Int, x2 = x1 + 1 →
      I1 y2 x2 ∧ μ1 y2 x2 < μ1 y1 x1)))) ∧
  ((gL s0 26 ((p1 * 7) + p2)) = (0 : Int64) →
  Q (0 : Int64))
def wp_Search_findHopeful (s0 : MS) (Q : MS → Prop) : Prop :=
  ∃ (I1 : Int → MS → Prop) (μ1 : Int → MS → Nat), I1 0 s0 ∧ ∀ (x1 : Int) (s1 : MS), I1 x1 s1 →
  Rng x1 ∧
  ((gI s1 25 6) ≤ x1 →
  ∀ x2 : Int, x2 = ((gI s1 25 9) - 1) →
   ∃ (I2 : Int → MS → Prop) (μ2 : Int → MS → Nat), I2 x2 s1 ∧ ∀ (x3 : Int) (s2 : MS), I2 x3 s2 →
   Rng x3 ∧
   (x3 < 0 →
   Q s2) ∧
   (¬ x3 < 0 →
   ∃ (I3 : Int → MS → Prop) (μ3 : Int → MS → Nat), I3 0 s2 ∧ ∀ (x4 : Int) (s3 : MS), I3 x4 s3 →
    Rng x4 ∧
    ((gI s3 25 6) ≤ x4 →
    ∀ x5 : Int, x5 = x3 + (-1) →
     I2 x5 s3 ∧ μ2 x5 s3 < μ2 x3 s2) ∧
    (¬ (gI s3 25 6) ≤ x4 →
    wp_Search_hopesFrom x3 x4 s3 (fun (r1 : Int64) =>
     (0 ≤ ((x3 * 7) + x4) ∧ ((x3 * 7) + x4) < 203) ∧
      ∀ s4 : MS, s4 = sL s3 27 ((x3 * 7) + x4) r1 →
      ∀ x6 : Int, x6 = x4 + 1 →
      I3 x6 s4 ∧ μ3 x6 s4 < μ3 x4 s3)))) ∧
  (¬ (gI s1 25 6) ≤ x1 →
  (0 ≤ (((gI s1 25 9) * 7) + x1) ∧ (((gI s1 25 9) * 7) + x1) < 203) ∧
   ∀ s5 : MS, s5 = sL s1 27 (((gI s1 25 9) * 7) + x1) (lshl (1 : Int64) (gI s1 25 7)) →
   ∀ x7 : Int, x7 = x1 + 1 →
   I1 x7 s5 ∧ μ1 x7 s5 < μ1 x1 s1)
def wp_Search_firstHopeful (p1 : Int) (p2 : Int) (p3 : Int64) (s0 : MS) (Q : Int → Prop) : Prop :=
  ∃ (I1 : Int → Prop) (μ1 : Int → Nat), I1 0 ∧ ∀ (x1 : Int), I1 x1 →
  Rng x1 ∧
  ((gI s0 25 6) ≤ x1 →
  Q (gI s0 25 6)) ∧
  (¬ (gI s0 25 6) ≤ x1 →
  wp_Search_placeOf p1 p2 x1 (fun (r1 : Int) =>
   (0 ≤ r1 ∧ r1 < 1568) ∧
    (0 ≤ (gI s0 28 r1) ∧ (gI s0 28 r1) < 7) ∧
    wp_Search_joined p3 (gI s0 29 (gI s0 28 r1)) s0 (fun (r2 : Int64) =>
    (0 ≤ (((p1 + 1) * 7) + (gI s0 28 r1)) ∧ (((p1 + 1) * 7) + (gI s0 28 r1)) < 203) ∧
     ((r2 &&& (gL s0 27 (((p1 + 1) * 7) + (gI s0 28 r1)))) = (0 : Int64) →
     ∀ x2 : Int, x2 = x1 + 1 →
      I1 x2 ∧ μ1 x2 < μ1 x1) ∧
     (¬ (r2 &&& (gL s0 27 (((p1 + 1) * 7) + (gI s0 28 r1)))) = (0 : Int64) →
     Q x1))))
def wp_Search_findRow (s0 : MS) (Q : MS → Prop) : Prop :=
  ∃ (I1 : Int → Int64 → Int → MS → Prop) (μ1 : Int → Int64 → Int → MS → Nat), I1 (gI s0 60 2) (1 : Int64) 0 s0 ∧ ∀ (x1 : Int) (y1 : Int64) (x2 : Int) (s1 : MS), I1 x1 y1 x2 s1 →
  Rng x2 ∧
  ((gI s1 25 9) ≤ x2 →
  Q s1) ∧
  (¬ (gI s1 25 9) ≤ x2 →
  Rng x1 ∧
   wp_Search_firstHopeful x2 x1 y1 s1 (fun (r1 : Int) =>
   (¬ r1 = 0 →
    (0 ≤ x2 ∧ x2 < 28) ∧
     Rng (r1 - 1) ∧
     ∀ s2 : MS, s2 = sI s1 30 x2 (r1 - 1) →
     wp_Search_placeOf x2 x1 r1 (fun (r2 : Int) =>
     (0 ≤ r2 ∧ r2 < 1568) ∧
      (0 ≤ (gI s2 28 r2) ∧ (gI s2 28 r2) < 7) ∧
      wp_Search_joined y1 (gI s2 29 (gI s2 28 r2)) s2 (fun (r3 : Int64) =>
      ∀ x3 : Int, x3 = x2 + 1 →
       I1 (gI s2 28 r2) r3 x3 s2 ∧ μ1 (gI s2 28 r2) r3 x3 s2 < μ1 x1 y1 x2 s1))) ∧
    (r1 = 0 →
    (0 ≤ x2 ∧ x2 < 28) ∧
     ∀ s3 : MS, s3 = sI s1 30 x2 (-4) →
     wp_Search_placeOf x2 x1 r1 (fun (r4 : Int) =>
     (0 ≤ r4 ∧ r4 < 1568) ∧
      (0 ≤ (gI s3 28 r4) ∧ (gI s3 28 r4) < 7) ∧
      wp_Search_joined y1 (gI s3 29 (gI s3 28 r4)) s3 (fun (r5 : Int64) =>
      ∀ x4 : Int, x4 = x2 + 1 →
       I1 (gI s3 28 r4) r5 x4 s3 ∧ μ1 (gI s3 28 r4) r5 x4 s3 < μ1 x1 y1 x2 s1)))))
def wp_Search_search (p2 : Nat) (s0 : MS) (Q : MS → Prop) : Prop :=
  ((gI s0 25 10) = 0 →
  wp_Noon_homes s0 (fun (r1 : Int) =>
   wp_Search_begin p2 r1 s0 (fun s1 : MS =>
    ∃ (I1 : Int → MS → Prop) (μ1 : Int → MS → Nat), I1 0 s1 ∧ ∀ (x1 : Int) (s2 : MS), I1 x1 s2 →
     Rng x1 ∧
     (28 ≤ x1 →
     wp_Search_isWholeBy x1 s2 (fun (r3 : Int) =>
      (r3 = 0 →
       ∀ s3 : MS, s3 = sI s2 25 9 (-4) →
        ((gI s3 25 9) = (-4) →
        Q s3) ∧
        (¬ (gI s3 25 9) = (-4) →
        wp_Search_findHopeful s3 (fun s4 : MS =>
         wp_Search_findRow s4 (fun s5 : MS =>
          Q s5)))) ∧
       (¬ r3 = 0 →
       ∀ s6 : MS, s6 = sI s2 25 9 x1 →
        ((gI s6 25 9) = (-4) →
        Q s6) ∧
        (¬ (gI s6 25 9) = (-4) →
        wp_Search_findHopeful s6 (fun s7 : MS =>
         wp_Search_findRow s7 (fun s8 : MS =>
          Q s8)))))) ∧
     (¬ 28 ≤ x1 →
     wp_Search_isWholeBy x1 s2 (fun (r8 : Int) =>
      (¬ r8 = 0 →
       wp_Search_isWholeBy x1 s2 (fun (r9 : Int) =>
        (r9 = 0 →
         ∀ s9 : MS, s9 = sI s2 25 9 (-4) →
          ((gI s9 25 9) = (-4) →
          Q s9) ∧
          (¬ (gI s9 25 9) = (-4) →
          wp_Search_findHopeful s9 (fun s10 : MS =>
           wp_Search_findRow s10 (fun s11 : MS =>
            Q s11)))) ∧
         (¬ r9 = 0 →
         ∀ s12 : MS, s12 = sI s2 25 9 x1 →
          ((gI s12 25 9) = (-4) →
          Q s12) ∧
          (¬ (gI s12 25 9) = (-4) →
          wp_Search_findHopeful s12 (fun s13 : MS =>
           wp_Search_findRow s13 (fun s14 : MS =>
            Q s14)))))) ∧
       (r8 = 0 →
       wp_Search_spread x1 s2 (fun s15 : MS =>
        ∀ x2 : Int, x2 = x1 + 1 →
         I1 x2 s15 ∧ μ1 x2 s15 < μ1 x1 s2))))))) ∧
  (¬ (gI s0 25 10) = 0 →
  wp_Standing_isLike 60 p2 s0 (fun (r15 : Int) =>
   (r15 = 0 →
    wp_Noon_homes s0 (fun (r16 : Int) =>
     wp_Search_begin p2 r16 s0 (fun s16 : MS =>
      ∃ (I2 : Int → MS → Prop) (μ2 : Int → MS → Nat), I2 0 s16 ∧ ∀ (x3 : Int) (s17 : MS), I2 x3 s17 →
       Rng x3 ∧
       (28 ≤ x3 →
       wp_Search_isWholeBy x3 s17 (fun (r18 : Int) =>
        (r18 = 0 →
         ∀ s18 : MS, s18 = sI s17 25 9 (-4) →
          ((gI s18 25 9) = (-4) →
          Q s18) ∧
          (¬ (gI s18 25 9) = (-4) →
          wp_Search_findHopeful s18 (fun s19 : MS =>
           wp_Search_findRow s19 (fun s20 : MS =>
            Q s20)))) ∧
         (¬ r18 = 0 →
         ∀ s21 : MS, s21 = sI s17 25 9 x3 →
          ((gI s21 25 9) = (-4) →
          Q s21) ∧
          (¬ (gI s21 25 9) = (-4) →
          wp_Search_findHopeful s21 (fun s22 : MS =>
           wp_Search_findRow s22 (fun s23 : MS =>
            Q s23)))))) ∧
       (¬ 28 ≤ x3 →
       wp_Search_isWholeBy x3 s17 (fun (r23 : Int) =>
        (¬ r23 = 0 →
         wp_Search_isWholeBy x3 s17 (fun (r24 : Int) =>
          (r24 = 0 →
           ∀ s24 : MS, s24 = sI s17 25 9 (-4) →
            ((gI s24 25 9) = (-4) →
            Q s24) ∧
            (¬ (gI s24 25 9) = (-4) →
            wp_Search_findHopeful s24 (fun s25 : MS =>
             wp_Search_findRow s25 (fun s26 : MS =>
              Q s26)))) ∧
           (¬ r24 = 0 →
           ∀ s27 : MS, s27 = sI s17 25 9 x3 →
            ((gI s27 25 9) = (-4) →
            Q s27) ∧
            (¬ (gI s27 25 9) = (-4) →
            wp_Search_findHopeful s27 (fun s28 : MS =>
             wp_Search_findRow s28 (fun s29 : MS =>
              Q s29)))))) ∧
         (r23 = 0 →
         wp_Search_spread x3 s17 (fun s30 : MS =>
          ∀ x4 : Int, x4 = x3 + 1 →
           I2 x4 s30 ∧ μ2 x4 s30 < μ2 x3 s17))))))) ∧
    (¬ r15 = 0 →
    Q s0)))
def wp_B_each (p1 : Int) (s0 : MS) (Q : Int → MS → Prop) : Prop :=
  (p1 < 0 →
  Q (-1) s0) ∧
  (¬ p1 < 0 →
  (p1 ≤ 28 →
   wp_Search_search 36 s0 (fun s1 : MS =>
    (¬ p1 = 0 →
     ((gI s1 25 9) < p1 →
      Q (-4) s1) ∧
      (¬ (gI s1 25 9) < p1 →
      (0 ≤ (p1 - 1) ∧ (p1 - 1) < 28) ∧
       Q (gI s1 30 (p1 - 1)) s1)) ∧
     (p1 = 0 →
     Q (gI s1 25 9) s1))) ∧
   (¬ p1 ≤ 28 →
   Q (-1) s0))
def wp_B_allBits (s0 : MS) (Q : Int → Prop) : Prop :=
  Rng ((ishl 1 (gI s0 (gR s0 0 0) 5)) - 1) ∧
  Q ((ishl 1 (gI s0 (gR s0 0 0) 5)) - 1)
def wp_B_always (s0 : MS) (Q : Int → MS → Prop) : Prop :=
  wp_B_allBits s0 (fun (r1 : Int) =>
  wp_Standing_copy 38 36 s0 (fun s1 : MS =>
   ∃ (I1 : Int → Int → MS → Prop) (μ1 : Int → Int → MS → Nat), I1 r1 0 s1 ∧ ∀ (x1 : Int) (x2 : Int) (s2 : MS), I1 x1 x2 s2 →
    Rng x2 ∧
    ((gI s2 (gR s2 0 0) 5) ≤ x2 →
    Rng x1 ∧
     Q x1 s2) ∧
    (¬ (gI s2 (gR s2 0 0) 5) ≤ x2 →
    ∀ s3 : MS, s3 = sI s2 38 2 x2 →
     wp_Noon_gather 38 s3 (fun s4 : MS =>
     (¬ (gI s4 17 4) = (-4) →
      ∀ x3 : Int, x3 = (iand x1 (ishl 1 (gI s4 17 4))) →
       ∀ x4 : Int, x4 = x2 + 1 →
       I1 x3 x4 s4 ∧ μ1 x3 x4 s4 < μ1 x1 x2 s2) ∧
      ((gI s4 17 4) = (-4) →
      ∀ x5 : Int, x5 = (iand x1 0) →
       ∀ x6 : Int, x6 = x2 + 1 →
       I1 x5 x6 s4 ∧ μ1 x5 x6 s4 < μ1 x1 x2 s2)))))
def wp_B_never (s0 : MS) (Q : Int → MS → Prop) : Prop :=
  wp_B_allBits s0 (fun (r1 : Int) =>
  ∀ x1 : Int, x1 = (iand r1 (ixor (ishl 1 (gI s0 36 2)) (-1))) →
   wp_Standing_copy 38 36 s0 (fun s1 : MS =>
   ∃ (I1 : Int → Int → MS → Prop) (μ1 : Int → Int → MS → Nat), I1 x1 1 s1 ∧ ∀ (x2 : Int) (x3 : Int) (s2 : MS), I1 x2 x3 s2 →
    Rng x3 ∧
    (56 < x3 →
    Rng x2 ∧
     Q x2 s2) ∧
    (¬ 56 < x3 →
    wp_Noon_goBy 38 s2 (fun s3 : MS =>
     ∀ x4 : Int, x4 = (iand x2 (ixor (ishl 1 (gI s3 38 2)) (-1))) →
      ∀ x5 : Int, x5 = x3 + 1 →
      I1 x4 x5 s3 ∧ μ1 x4 x5 s3 < μ1 x2 x3 s2))))
def wp_B_see (p1 : Int) (p2 : Int) (s0 : MS) (Q : Int → MS → Prop) : Prop :=
  wp_Valley_has (gR s0 0 0) p1 s0 (fun (r1 : Int) =>
  (r1 = 0 →
   Q (-1) s0) ∧
   (¬ r1 = 0 →
   (p2 < 1 →
    Q (-1) s0) ∧
    (¬ p2 < 1 →
    (p2 ≤ 28 →
     ((gI s0 0 13) < 6 →
      (0 ≤ (gI s0 0 13) ∧ (gI s0 0 13) < 6) ∧
       ∀ s1 : MS, s1 = sI s0 34 (gI s0 0 13) p1 →
       (0 ≤ (gI s1 0 13) ∧ (gI s1 0 13) < 6) ∧
       ∀ s2 : MS, s2 = sI s1 35 (gI s1 0 13) p2 →
       Rng ((gI s2 0 13) + 1) ∧
       ∀ s3 : MS, s3 = sI s2 0 13 ((gI s2 0 13) + 1) →
       Q (gI s3 0 13) s3) ∧
      (¬ (gI s0 0 13) < 6 →
      Q (-3) s0)) ∧
     (¬ p2 ≤ 28 →
     Q (-1) s0))))
def wp_B_forget (s0 : MS) (Q : Int → MS → Prop) : Prop :=
  ∀ s1 : MS, s1 = sI s0 0 13 0 →
  Rng (gI s0 0 13) ∧
  Q (gI s0 0 13) s1
def wp_B_farthestSeen (s0 : MS) (Q : Int → Prop) : Prop :=
  ∃ (I1 : Int → Int → Prop) (μ1 : Int → Int → Nat), I1 0 0 ∧ ∀ (x1 : Int) (x2 : Int), I1 x1 x2 →
  Rng x2 ∧
  ((gI s0 0 13) ≤ x2 →
  Rng x1 ∧
   Q x1) ∧
  (¬ (gI s0 0 13) ≤ x2 →
  (0 ≤ x2 ∧ x2 < 6) ∧
   Rng x1 ∧
   ∀ x3 : Int, x3 = (max x1 (gI s0 35 x2)) →
   ∀ x4 : Int, x4 = x2 + 1 →
   I1 x3 x4 ∧ μ1 x3 x4 < μ1 x1 x2)
def wp_B_isSeenAt (p1 : Int) (p2 : Int) (s0 : MS) (Q : Int → Prop) : Prop :=
  ∃ (I1 : Int → Prop) (μ1 : Int → Nat), I1 0 ∧ ∀ (x1 : Int), I1 x1 →
  Rng x1 ∧
  ((gI s0 0 13) ≤ x1 →
  Q 1) ∧
  (¬ (gI s0 0 13) ≤ x1 →
  (0 ≤ x1 ∧ x1 < 6) ∧
   (¬ (gI s0 35 x1) = p2 →
   ∀ x2 : Int, x2 = x1 + 1 →
    I1 x2 ∧ μ1 x2 < μ1 x1) ∧
   ((gI s0 35 x1) = p2 →
   ((gI s0 34 x1) = p1 →
    ∀ x3 : Int, x3 = x1 + 1 →
     I1 x3 ∧ μ1 x3 < μ1 x1) ∧
    (¬ (gI s0 34 x1) = p1 →
    Q 0)))
def wp_B_fitsSeen (p1 : Int) (p2 : Int) (s0 : MS) (Q : Int → MS → Prop) : Prop :=
  wp_Standing_copy 38 36 s0 (fun s1 : MS =>
  ∀ s2 : MS, s2 = sI s1 38 2 p1 →
   ∀ s3 : MS, s3 = sI s2 38 3 p2 →
   wp_B_farthestSeen s3 (fun (r2 : Int) =>
   ∃ (I1 : Int → MS → Prop) (μ1 : Int → MS → Nat), I1 1 s3 ∧ ∀ (x1 : Int) (s4 : MS), I1 x1 s4 →
    Rng x1 ∧
    (r2 < x1 →
    Q 1 s4) ∧
    (¬ r2 < x1 →
    wp_Noon_goBy 38 s4 (fun s5 : MS =>
     wp_B_isSeenAt (gI s5 38 2) x1 s5 (fun (r4 : Int) =>
      (¬ r4 = 0 →
       ∀ x2 : Int, x2 = x1 + 1 →
        I1 x2 s5 ∧ μ1 x2 s5 < μ1 x1 s4) ∧
       (r4 = 0 →
       Q 0 s5))))))
def wp_B_fog (s0 : MS) (Q : Int → MS → Prop) : Prop :=
  ∃ (I1 : Int → Int → MS → Prop) (μ1 : Int → Int → MS → Nat), I1 0 0 s0 ∧ ∀ (x1 : Int) (x2 : Int) (s1 : MS), I1 x1 x2 s1 →
  Rng x2 ∧
  ((gI s1 (gR s1 0 0) 5) ≤ x2 →
  Rng x1 ∧
   Q x1 s1) ∧
  (¬ (gI s1 (gR s1 0 0) 5) ≤ x2 →
  wp_B_fitsSeen x2 (gI s1 36 3) s1 (fun (r1 : Int) (s2 : MS) =>
   (r1 = 0 →
    ∀ x3 : Int, x3 = x2 + 1 →
     I1 x1 x3 s2 ∧ μ1 x1 x3 s2 < μ1 x1 x2 s1) ∧
    (¬ r1 = 0 →
    ∀ x4 : Int, x4 = (ior x1 (ishl 1 x2)) →
     ∀ x5 : Int, x5 = x2 + 1 →
     I1 x4 x5 s2 ∧ μ1 x4 x5 s2 < μ1 x1 x2 s1)))
def wp_B_tripped (s0 : MS) (Q : Int → MS → Prop) : Prop :=
  wp_B_fitsSeen (gI s0 36 2) (gI s0 36 3) s0 (fun (r1 : Int) (s1 : MS) =>
  (r1 = 0 →
   ∃ (I1 : Int → Int → MS → Prop) (μ1 : Int → Int → MS → Nat), I1 0 0 s1 ∧ ∀ (x1 : Int) (x2 : Int) (s2 : MS), I1 x1 x2 s2 →
    Rng x2 ∧
    ((gI s2 (gR s2 0 0) 5) ≤ x2 →
    Rng x1 ∧
     Q x1 s2) ∧
    (¬ (gI s2 (gR s2 0 0) 5) ≤ x2 →
    wp_B_fitsSeen (gI s2 36 2) (ior (gI s2 36 3) (ishl 1 x2)) s2 (fun (r2 : Int) (s3 : MS) =>
     (r2 = 0 →
      ∀ x3 : Int, x3 = x2 + 1 →
       I1 x1 x3 s3 ∧ μ1 x1 x3 s3 < μ1 x1 x2 s2) ∧
      (¬ r2 = 0 →
      ∀ x4 : Int, x4 = (ior x1 (ishl 1 x2)) →
       ∀ x5 : Int, x5 = x2 + 1 →
       I1 x4 x5 s3 ∧ μ1 x4 x5 s3 < μ1 x1 x2 s2)))) ∧
   (¬ r1 = 0 →
   ∃ (I2 : Int → Int → MS → Prop) (μ2 : Int → Int → MS → Nat), I2 128 0 s1 ∧ ∀ (x6 : Int) (x7 : Int) (s4 : MS), I2 x6 x7 s4 →
    Rng x7 ∧
    ((gI s4 (gR s4 0 0) 5) ≤ x7 →
    Rng x6 ∧
     Q x6 s4) ∧
    (¬ (gI s4 (gR s4 0 0) 5) ≤ x7 →
    wp_B_fitsSeen (gI s4 36 2) (ior (gI s4 36 3) (ishl 1 x7)) s4 (fun (r3 : Int) (s5 : MS) =>
     (r3 = 0 →
      ∀ x8 : Int, x8 = x7 + 1 →
       I2 x6 x8 s5 ∧ μ2 x6 x8 s5 < μ2 x6 x7 s4) ∧
      (¬ r3 = 0 →
      ∀ x9 : Int, x9 = (ior x6 (ishl 1 x7)) →
       ∀ x10 : Int, x10 = x7 + 1 →
       I2 x9 x10 s5 ∧ μ2 x9 x10 s5 < μ2 x6 x7 s4)))))
def wp_Measles_power (p1 : Int) (p2 : Int) (Q : Int64 → Prop) : Prop :=
  ∃ (I1 : Int64 → Int → Prop) (μ1 : Int64 → Int → Nat), I1 (1 : Int64) 0 ∧ ∀ (y1 : Int64) (x1 : Int), I1 y1 x1 →
  Rng x1 ∧
  (p2 ≤ x1 →
  Q y1) ∧
  (¬ p2 ≤ x1 →
  ∀ y2 : Int64, y2 = (y1 * (i2l p1)) →
   ∀ x2 : Int, x2 = x1 + 1 →
   I1 y2 x2 ∧ μ1 y2 x2 < μ1 y1 x1)
def wp_Noon_laterThan (p1 : Int) (s0 : MS) (Q : Int → Prop) : Prop :=
  ∃ (I1 : Int → Int → Prop) (μ1 : Int → Int → Nat), I1 0 0 ∧ ∀ (x1 : Int) (x2 : Int), I1 x1 x2 →
  Rng x2 ∧
  ((gI s0 (gR s0 17 2) 5) ≤ x2 →
  Rng x1 ∧
   Q x1) ∧
  (¬ (gI s0 (gR s0 17 2) 5) ≤ x2 →
  (0 ≤ x2 ∧ x2 < 7) ∧
   (0 ≤ p1 ∧ p1 < 7) ∧
   ((gI s0 20 p1) < (gI s0 20 x2) →
   ∀ x3 : Int, x3 = x1 + 1 →
    ∀ x4 : Int, x4 = x2 + 1 →
    I1 x3 x4 ∧ μ1 x3 x4 < μ1 x1 x2) ∧
   (¬ (gI s0 20 p1) < (gI s0 20 x2) →
   (¬ (gI s0 20 x2) = (gI s0 20 p1) →
    ∀ x5 : Int, x5 = x2 + 1 →
     I1 x1 x5 ∧ μ1 x1 x5 < μ1 x1 x2) ∧
    ((gI s0 20 x2) = (gI s0 20 p1) →
    (x2 ≤ p1 →
     ∀ x6 : Int, x6 = x2 + 1 →
      I1 x1 x6 ∧ μ1 x1 x6 < μ1 x1 x2) ∧
     (¬ x2 ≤ p1 →
     ∀ x7 : Int, x7 = x1 + 1 →
      ∀ x8 : Int, x8 = x2 + 1 →
      I1 x7 x8 ∧ μ1 x7 x8 < μ1 x1 x2))))
def wp_Measles_spreadFrom (p1 : Int) (p3 : Int) (s0 : MS) (Q : MS → Prop) : Prop :=
  wp_Noon_homes s0 (fun (r1 : Int) =>
  (0 ≤ p1 ∧ p1 < 7) ∧
   wp_Measles_power p3 (gI s0 17 5) (fun (r2 : Int64) =>
   Rng (r1 - (gI s0 17 5)) ∧
    wp_Measles_power 10 (r1 - (gI s0 17 5)) (fun (r3 : Int64) =>
    ∀ s1 : MS, s1 = sL s0 33 p1 ((gL s0 33 p1) + (((gL s0 32 p1) * r2) * r3)) →
     ∃ (I1 : Int → MS → Prop) (μ1 : Int → MS → Nat), I1 0 s1 ∧ ∀ (x1 : Int) (s2 : MS), I1 x1 s2 →
     Rng x1 ∧
     (r1 ≤ x1 →
     Q s2) ∧
     (¬ r1 ≤ x1 →
     (0 ≤ x1 ∧ x1 < 7) ∧
      ((gI s2 20 x1) = (-4) →
      ∀ x2 : Int, x2 = x1 + 1 →
       I1 x2 s2 ∧ μ1 x2 s2 < μ1 x1 s2) ∧
      (¬ (gI s2 20 x1) = (-4) →
      wp_Noon_laterThan x1 s2 (fun (r4 : Int) =>
       wp_Measles_power p3 r4 (fun (r5 : Int64) =>
        Rng ((r1 - 1) - r4) ∧
         wp_Measles_power 10 ((r1 - 1) - r4) (fun (r6 : Int64) =>
         ∀ y1 : Int64, y1 = (((i2l (10 - p3)) * r5) * r6) →
          ∀ s3 : MS, s3 = sL s2 33 x1 ((gL s2 33 x1) + ((gL s2 32 p1) * y1)) →
          ∀ x3 : Int, x3 = x1 + 1 →
          I1 x3 s3 ∧ μ1 x3 s3 < μ1 x1 s2))))))))
def wp_Measles_spread (p2 : Nat) (p3 : Int) (s0 : MS) (Q : MS → Prop) : Prop :=
  ∃ (I1 : Int → MS → Prop) (μ1 : Int → MS → Nat), I1 0 s0 ∧ ∀ (x1 : Int) (s1 : MS), I1 x1 s1 →
  Rng x1 ∧
  (7 ≤ x1 →
  ∃ (I2 : Int → MS → Prop) (μ2 : Int → MS → Nat), I2 0 s1 ∧ ∀ (x2 : Int) (s2 : MS), I2 x2 s2 →
   wp_Noon_homes s2 (fun (r1 : Int) =>
   Rng x2 ∧
    (r1 ≤ x2 →
    ∃ (I3 : Int → MS → Prop) (μ3 : Int → MS → Nat), I3 0 s2 ∧ ∀ (x3 : Int) (s3 : MS), I3 x3 s3 →
     Rng x3 ∧
     (7 ≤ x3 →
     wp_Noon_homes s3 (fun (r2 : Int) =>
      wp_Measles_power 10 r2 (fun (r3 : Int64) =>
       ∀ s4 : MS, s4 = sL s3 31 2 ((gL s3 31 2) * r3) →
        Q s4))) ∧
     (¬ 7 ≤ x3 →
     (0 ≤ x3 ∧ x3 < 7) ∧
      ∀ s5 : MS, s5 = sL s3 32 x3 (gL s3 33 x3) →
      ∀ x4 : Int, x4 = x3 + 1 →
      I3 x4 s5 ∧ μ3 x4 s5 < μ3 x3 s3)) ∧
    (¬ r1 ≤ x2 →
    (0 ≤ x2 ∧ x2 < 7) ∧
     ((gL s2 32 x2) = (0 : Int64) →
     ∀ x5 : Int, x5 = x2 + 1 →
      I2 x5 s2 ∧ μ2 x5 s2 < μ2 x2 s2) ∧
     (¬ (gL s2 32 x2) = (0 : Int64) →
     ∀ s6 : MS, s6 = sI s2 p2 2 x2 →
      wp_Noon_gather p2 s6 (fun s7 : MS =>
      wp_Measles_spreadFrom x2 p3 s7 (fun s8 : MS =>
       ∀ x6 : Int, x6 = x2 + 1 →
        I2 x6 s8 ∧ μ2 x6 s8 < μ2 x2 s2)))))) ∧
  (¬ 7 ≤ x1 →
  (0 ≤ x1 ∧ x1 < 7) ∧
   ∀ s9 : MS, s9 = sL s1 33 x1 (0 : Int64) →
   ∀ x7 : Int, x7 = x1 + 1 →
   I1 x7 s9 ∧ μ1 x7 s9 < μ1 x1 s1)
def wp_Measles_reckon (p2 : Nat) (p3 : Int) (p4 : Int) (s0 : MS) (Q : MS → Prop) : Prop :=
  ∃ (I1 : Int → MS → Prop) (μ1 : Int → MS → Nat), I1 0 s0 ∧ ∀ (x1 : Int) (s1 : MS), I1 x1 s1 →
  Rng x1 ∧
  (7 ≤ x1 →
  ∀ s2 : MS, s2 = sL s1 31 2 (1 : Int64) →
   ∃ (I2 : Int → MS → Prop) (μ2 : Int → MS → Nat), I2 0 s2 ∧ ∀ (x2 : Int) (s3 : MS), I2 x2 s3 →
   Rng x2 ∧
   (p3 ≤ x2 →
   Q s3) ∧
   (¬ p3 ≤ x2 →
   wp_Measles_spread p2 p4 s3 (fun s4 : MS =>
    ∀ s5 : MS, s5 = sI s4 p2 3 0 →
     Rng ((gI s5 p2 1) + 1) ∧
     ∀ s6 : MS, s6 = sI s5 p2 1 ((gI s5 p2 1) + 1) →
     ∀ x3 : Int, x3 = x2 + 1 →
     I2 x3 s6 ∧ μ2 x3 s6 < μ2 x2 s3))) ∧
  (¬ 7 ≤ x1 →
  (¬ x1 = (gI s1 p2 2) →
   (0 ≤ x1 ∧ x1 < 7) ∧
    ∀ s7 : MS, s7 = sL s1 32 x1 (0 : Int64) →
    ∀ x4 : Int, x4 = x1 + 1 →
    I1 x4 s7 ∧ μ1 x4 s7 < μ1 x1 s1) ∧
   (x1 = (gI s1 p2 2) →
   (0 ≤ x1 ∧ x1 < 7) ∧
    ∀ s8 : MS, s8 = sL s1 32 x1 (1 : Int64) →
    ∀ x5 : Int, x5 = x1 + 1 →
    I1 x5 s8 ∧ μ1 x5 s8 < μ1 x1 s1))
def wp_B_commonDivisor (p1 : Int64) (p2 : Int64) (Q : Int64 → Prop) : Prop :=
  ∃ (I1 : Int64 → Int64 → Int → Prop) (μ1 : Int64 → Int64 → Int → Nat), I1 p1 p2 0 ∧ ∀ (y1 : Int64) (y2 : Int64) (x1 : Int), I1 y1 y2 x1 →
  Rng x1 ∧
  (200 ≤ x1 →
  Q y1) ∧
  (¬ 200 ≤ x1 →
  (y2 = (0 : Int64) →
   Q y1) ∧
   (¬ y2 = (0 : Int64) →
   ∀ y3 : Int64, y3 = (lrem y1 y2) →
    ∀ x2 : Int, x2 = x1 + 1 →
    I1 y2 y3 x2 ∧ μ1 y2 y3 x2 < μ1 y1 y2 x1))
def wp_B_measles (p1 : Int) (p2 : Int) (p3 : Int) (p4 : Int) (s0 : MS) (Q : Int64 → MS → Prop) : Prop :=
  wp_Valley_has (gR s0 0 0) p1 s0 (fun (r1 : Int) =>
  (r1 = 0 →
   Q (-1 : Int64) s0) ∧
   (¬ r1 = 0 →
   (p2 < 0 →
    Q (-1 : Int64) s0) ∧
    (¬ p2 < 0 →
    (2 < p2 →
     Q (-1 : Int64) s0) ∧
     (¬ 2 < p2 →
     (p3 < 0 →
      Q (-1 : Int64) s0) ∧
      (¬ p3 < 0 →
      (10 < p3 →
       Q (-1 : Int64) s0) ∧
       (¬ 10 < p3 →
       (p4 < 0 →
        Q (-1 : Int64) s0) ∧
        (¬ p4 < 0 →
        (p4 ≤ 1 →
         wp_Standing_copy 38 36 s0 (fun s1 : MS =>
          wp_Measles_reckon 38 p2 p3 s1 (fun s2 : MS =>
           (0 ≤ p1 ∧ p1 < 7) ∧
            ∀ y1 : Int64, y1 = (gL s2 32 p1) →
            wp_B_commonDivisor y1 (gL s2 31 2) (fun (r4 : Int64) =>
            ∀ y2 : Int64, y2 = (lmax (1 : Int64) r4) →
             (¬ p4 = 0 →
             (¬ y2 = 0) ∧
              Q ((gL s2 31 2) / y2) s2) ∧
             (p4 = 0 →
             (¬ y2 = 0) ∧
              Q (y1 / y2) s2))))) ∧
         (¬ p4 ≤ 1 →
         Q (-1 : Int64) s0))))))))
def wp_B_drawnOn (p1 : Int) (p2 : Int) (s0 : MS) (Q : Int → Prop) : Prop :=
  ∀ y1 : Int64, y1 = ((((7919 : Int64) * (i2l p1)) + ((6151 : Int64) * (i2l p2))) + (1 : Int64)) →
  ∀ y2 : Int64, y2 = ((lrem (y1 * y1) (65521 : Int64)) / (2 : Int64)) →
  (¬ (lrem (y2 / (8 : Int64)) (2 : Int64)) = (0 : Int64) →
  Q 0) ∧
  ((lrem (y2 / (8 : Int64)) (2 : Int64)) = (0 : Int64) →
  (1 ≤ (gI s0 (gR s0 0 0) 5) →
   (¬ (i2l (gI s0 (gR s0 0 0) 5)) = 0) ∧
    Q (ishl 1 (l2i (lrem y2 (i2l (gI s0 (gR s0 0 0) 5)))))) ∧
   (¬ 1 ≤ (gI s0 (gR s0 0 0) 5) →
   Q 0))
def wp_Standing_soupsInAll (v0 : Nat) (s0 : MS) (Q : Int → Prop) : Prop :=
  ∃ (I1 : Int → Int → Prop) (μ1 : Int → Int → Nat), I1 0 0 ∧ ∀ (x1 : Int) (x2 : Int), I1 x1 x2 →
  Rng x2 ∧
  (7 ≤ x2 →
  Rng x1 ∧
   Q x1) ∧
  (¬ 7 ≤ x2 →
  (0 ≤ x2 ∧ x2 < 7) ∧
   ∀ x3 : Int, x3 = (x1 + (gI s0 (v0 + 1) x2)) →
   ∀ x4 : Int, x4 = x2 + 1 →
   I1 x3 x4 ∧ μ1 x3 x4 < μ1 x1 x2)
def wp_B_year (p1 : Int) (p2 : Int) (p3 : Int) (s0 : MS) (Q : Int → MS → Prop) : Prop :=
  (p1 < 0 →
  Q (-1) s0) ∧
  (¬ p1 < 0 →
  (9999 < p1 →
   Q (-1) s0) ∧
   (¬ 9999 < p1 →
   (p2 < 1 →
    Q (-1) s0) ∧
    (¬ p2 < 1 →
    (60 < p2 →
     Q (-1) s0) ∧
     (¬ 60 < p2 →
     (p3 < 0 →
      Q (-1) s0) ∧
      (¬ p3 < 0 →
      (p3 ≤ 1 →
       wp_Standing_copy 38 36 s0 (fun s1 : MS =>
        ∃ (I1 : Int → MS → Prop) (μ1 : Int → MS → Nat), I1 0 s1 ∧ ∀ (x1 : Int) (s2 : MS), I1 x1 s2 →
         Rng x1 ∧
         (p2 ≤ x1 →
         (¬ p3 = 0 →
          wp_Standing_soupsInAll 38 s2 (fun (r2 : Int) =>
           wp_Standing_soupsInAll 36 s2 (fun (r3 : Int) =>
            Rng (r2 - r3) ∧
             Q (r2 - r3) s2))) ∧
          (p3 = 0 →
          Q (gI s2 38 2) s2)) ∧
         (¬ p2 ≤ x1 →
         wp_B_drawnOn p1 x1 s2 (fun (r4 : Int) =>
          ∀ s3 : MS, s3 = sI s2 38 3 (ior (gI s2 38 3) r4) →
           wp_Noon_goBy 38 s3 (fun s4 : MS =>
           ∀ x2 : Int, x2 = x1 + 1 →
            I1 x2 s4 ∧ μ1 x2 s4 < μ1 x1 s2))))) ∧
       (¬ p3 ≤ 1 →
       Q (-1) s0))))))
def wp_B_keep (s0 : MS) (Q : Int → MS → Prop) : Prop :=
  wp_Shelf_put23 36 s0 (fun (r1 : Int) (s1 : MS) =>
  (r1 = 0 →
   Q (-3) s1) ∧
   (¬ r1 = 0 →
   Q (gI s1 23 1) s1))
def wp_B_back (s0 : MS) (Q : Int → MS → Prop) : Prop :=
  wp_Shelf_takeInto23 36 s0 (fun (r1 : Int) (s1 : MS) =>
  (¬ r1 = 0 →
   ∀ s2 : MS, s2 = sI s1 21 1 0 →
    Q (gI s2 23 1) s2) ∧
   (r1 = 0 →
   Q (-2) s1))
def wp_Valley_ways (v0 : Nat) (s0 : MS) (Q : Int → Prop) : Prop :=
  ∃ (I1 : Int → Int → Prop) (μ1 : Int → Int → Nat), I1 0 0 ∧ ∀ (x1 : Int) (x2 : Int), I1 x1 x2 →
  Rng x2 ∧
  (49 ≤ x2 →
  Rng x1 ∧
   Q x1) ∧
  (¬ 49 ≤ x2 →
  (0 ≤ x2 ∧ x2 < 49) ∧
   ((gI s0 (v0 + 3) x2) ≤ 0 →
   ∀ x3 : Int, x3 = (x1 + 0) →
    ∀ x4 : Int, x4 = x2 + 1 →
    I1 x3 x4 ∧ μ1 x3 x4 < μ1 x1 x2) ∧
   (¬ (gI s0 (v0 + 3) x2) ≤ 0 →
   ∀ x5 : Int, x5 = (x1 + 1) →
    ∀ x6 : Int, x6 = x2 + 1 →
    I1 x5 x6 ∧ μ1 x5 x6 < μ1 x1 x2))
def wp_Long_bitCount (p1 : Int64) (Q : Int → Prop) : Prop :=
  ∀ y1 : Int64, y1 = (p1 - ((lushr p1 1) &&& (6148914691236517205 : Int64))) →
  ∀ y2 : Int64, y2 = ((y1 &&& (3689348814741910323 : Int64)) + ((lushr y1 2) &&& (3689348814741910323 : Int64))) →
  ∀ y3 : Int64, y3 = ((y2 + (lushr y2 4)) &&& (1085102592571150095 : Int64)) →
  ∀ y4 : Int64, y4 = (y3 + (lushr y3 8)) →
  ∀ y5 : Int64, y5 = (y4 + (lushr y4 16)) →
  ∀ y6 : Int64, y6 = (y5 + (lushr y5 32)) →
  Q (iand (l2i y6) 127)
def wp_Integer_bitCount (p1 : Int) (Q : Int → Prop) : Prop :=
  ∀ x1 : Int, x1 = (p1 - (iand (iushr p1 1) 1431655765)) →
  ∀ x2 : Int, x2 = ((iand x1 858993459) + (iand (iushr x1 2) 858993459)) →
  ∀ x3 : Int, x3 = (iand (x2 + (iushr x2 4)) 252645135) →
  ∀ x4 : Int, x4 = (x3 + (iushr x3 8)) →
  ∀ x5 : Int, x5 = (x4 + (iushr x4 16)) →
  Q (iand x5 63)
def wp_B_count (p1 : Int) (s0 : MS) (Q : Int → Prop) : Prop :=
  (p1 = 0 →
  Q (gI s0 (gR s0 0 0) 5)) ∧
  (p1 = 1 →
  wp_Valley_ways (gR s0 0 0) s0 (fun (r1 : Int) =>
   Q r1)) ∧
  (p1 = 2 →
  wp_Long_bitCount (gL s0 36 6) (fun (r2 : Int) =>
   Q r2)) ∧
  (p1 = 3 →
  Q (gI s0 36 1)) ∧
  (p1 = 4 →
  Q (gI s0 36 2)) ∧
  (p1 = 5 →
  wp_Integer_bitCount (gI s0 36 4) (fun (r3 : Int) =>
   Q r3)) ∧
  (p1 = 6 →
  wp_Standing_soupsInAll 36 s0 (fun (r4 : Int) =>
   Q r4)) ∧
  (p1 = 7 →
  Q (gI s0 0 13)) ∧
  (p1 = 8 →
  Q (gI s0 21 1)) ∧
  (p1 = 9 →
  Q (gI s0 23 1)) ∧
  (p1 = 10 →
  Q (gI s0 13 1)) ∧
  (¬ p1 = 0 →
  ¬ p1 = 1 →
  ¬ p1 = 2 →
  ¬ p1 = 3 →
  ¬ p1 = 4 →
  ¬ p1 = 5 →
  ¬ p1 = 6 →
  ¬ p1 = 7 →
  ¬ p1 = 8 →
  ¬ p1 = 9 →
  ¬ p1 = 10 →
  Q (-1))
def wp_M_in (p1 : Int) (p2 : Int) (p3 : Int) (Q : Int → Prop) : Prop :=
  (p1 < p2 →
  Q 0) ∧
  (¬ p1 < p2 →
  (p3 < p1 →
   Q 0) ∧
   (¬ p3 < p1 →
   Q 1))
def wp_M_has (p1 : Int) (p2 : Int) (Q : Int → Prop) : Prop :=
  (¬ (iand (ishr p1 p2) 1) = 1 →
  Q 0) ∧
  ((iand (ishr p1 p2) 1) = 1 →
  Q 1)
def wp_M_bits (p1 : Int) (Q : Int → Prop) : Prop :=
  ∃ (I1 : Int → Int → Prop) (μ1 : Int → Int → Nat), I1 0 p1 ∧ ∀ (x1 : Int) (x2 : Int), I1 x1 x2 →
  Rng x2 ∧
  (x2 = 0 →
  Rng x1 ∧
   Q x1) ∧
  (¬ x2 = 0 →
  ∀ x3 : Int, x3 = x1 + 1 →
   ∀ x4 : Int, x4 = (iand x2 (x2 - 1)) →
   I1 x3 x4 ∧ μ1 x3 x4 < μ1 x1 x2)
def wp_M_anew (s0 : MS) (Q : MS → Prop) : Prop :=
  ∀ s1 : MS, s1 = sI s0 0 3 0 →
  ∀ s2 : MS, s2 = sI s1 0 4 0 →
  ∀ s3 : MS, s3 = sI s2 0 5 60 →
  ∃ (I1 : Int → MS → Prop) (μ1 : Int → MS → Nat), I1 0 s3 ∧ ∀ (x1 : Int) (s4 : MS), I1 x1 s4 →
  Rng x1 ∧
  (49 ≤ x1 →
  Q s4) ∧
  (¬ 49 ≤ x1 →
  (0 ≤ x1 ∧ x1 < 49) ∧
   ∀ s5 : MS, s5 = sI s4 4 x1 0 →
   ∀ s6 : MS, s6 = sI s5 5 x1 1 →
   ∀ s7 : MS, s7 = sI s6 6 x1 0 →
   ∀ x2 : Int, x2 = x1 + 1 →
   I1 x2 s7 ∧ μ1 x2 s7 < μ1 x1 s4)
def wp_M_comesHome (p1 : Int) (p2 : Int) (s0 : MS) (Q : MS → Prop) : Prop :=
  (0 ≤ (gI s0 0 3) ∧ (gI s0 0 3) < 7) ∧
  ∀ s1 : MS, s1 = sI s0 2 (gI s0 0 3) p1 →
  (0 ≤ (gI s1 0 3) ∧ (gI s1 0 3) < 7) ∧
  ∀ s2 : MS, s2 = sI s1 3 (gI s1 0 3) p2 →
  Rng ((gI s2 0 3) + 1) ∧
  ∀ s3 : MS, s3 = sI s2 0 3 ((gI s2 0 3) + 1) →
  Q s3
def wp_M_joins (p1 : Int) (p2 : Int) (p3 : Int) (s0 : MS) (Q : MS → Prop) : Prop :=
  (0 ≤ ((7 * p1) + p2) ∧ ((7 * p1) + p2) < 49) ∧
  ∀ s1 : MS, s1 = sI s0 4 ((7 * p1) + p2) p3 →
  (0 ≤ ((7 * p2) + p1) ∧ ((7 * p2) + p1) < 49) ∧
  ∀ s2 : MS, s2 = sI s1 4 ((7 * p2) + p1) p3 →
  Q s2
def wp_M_snows (p1 : Int) (p2 : Int) (p3 : Int) (p4 : Int) (s0 : MS) (Q : MS → Prop) : Prop :=
  (0 ≤ ((7 * p1) + p2) ∧ ((7 * p1) + p2) < 49) ∧
  ∀ s1 : MS, s1 = sI s0 5 ((7 * p1) + p2) p3 →
  (0 ≤ ((7 * p2) + p1) ∧ ((7 * p2) + p1) < 49) ∧
  ∀ s2 : MS, s2 = sI s1 5 ((7 * p2) + p1) p3 →
  ∀ s3 : MS, s3 = sI s2 6 ((7 * p1) + p2) p4 →
  ∀ s4 : MS, s4 = sI s3 6 ((7 * p2) + p1) p4 →
  Q s4
def wp_M_write (p1 : Int) (s0 : MS) (Q : Int → MS → Prop) : Prop :=
  wp_M_in p1 32 126 (fun (r1 : Int) =>
  (¬ r1 = 0 →
   (¬ (gI s0 0 0) = 200 →
    (0 ≤ (gI s0 0 0) ∧ (gI s0 0 0) < 200) ∧
     ∀ s1 : MS, s1 = sI s0 1 (gI s0 0 0) p1 →
     Rng ((gI s1 0 0) + 1) ∧
     ∀ s2 : MS, s2 = sI s1 0 0 ((gI s1 0 0) + 1) →
     Q (gI s2 0 0) s2) ∧
    ((gI s0 0 0) = 200 →
    Q (-3) s0)) ∧
   (r1 = 0 →
   Q (-1) s0))
def wp_M_wipe (s0 : MS) (Q : Int → MS → Prop) : Prop :=
  ∀ s1 : MS, s1 = sI s0 0 0 0 →
  Rng (gI s0 0 0) ∧
  Q (gI s0 0 0) s1
def wp_M_here (s0 : MS) (Q : Int → Prop) : Prop :=
  ((gI s0 0 0) ≤ (gI s0 0 2) →
  Q 0) ∧
  (¬ (gI s0 0 0) ≤ (gI s0 0 2) →
  (0 ≤ (gI s0 0 2) ∧ (gI s0 0 2) < 200) ∧
   Q (gI s0 1 (gI s0 0 2)))
def wp_M_numbers (p1 : Int) (s0 : MS) (Q : Int → MS → Prop) : Prop :=
  ∃ (I1 : Int → MS → Prop) (μ1 : Int → MS → Nat), I1 0 s0 ∧ ∀ (x1 : Int) (s1 : MS), I1 x1 s1 →
  Rng x1 ∧
  (p1 ≤ x1 →
  Q 1 s1) ∧
  (¬ p1 ≤ x1 →
  wp_M_here s1 (fun (r1 : Int) =>
   wp_M_in r1 48 57 (fun (r2 : Int) =>
    (¬ r2 = 0 →
     wp_M_here s1 (fun (r3 : Int) =>
      (0 ≤ x1 ∧ x1 < 4) ∧
       Rng (r3 - 48) ∧
       ∀ s2 : MS, s2 = sI s1 7 x1 (r3 - 48) →
       Rng ((gI s2 0 2) + 1) ∧
       ∀ s3 : MS, s3 = sI s2 0 2 ((gI s2 0 2) + 1) →
       wp_M_here s3 (fun (r4 : Int) =>
       wp_M_in r4 48 57 (fun (r5 : Int) =>
        (r5 = 0 →
         wp_M_here s3 (fun (r6 : Int) =>
          Rng (p1 - 1) ∧
           (¬ x1 = (p1 - 1) →
           (r6 = 44 →
            Rng ((gI s3 0 2) + 1) ∧
             ∀ s4 : MS, s4 = sI s3 0 2 ((gI s3 0 2) + 1) →
             ∀ x2 : Int, x2 = x1 + 1 →
             I1 x2 s4 ∧ μ1 x2 s4 < μ1 x1 s1) ∧
            (¬ r6 = 44 →
            Q 0 s3)) ∧
           (x1 = (p1 - 1) →
           (r6 = 59 →
            Rng ((gI s3 0 2) + 1) ∧
             ∀ s5 : MS, s5 = sI s3 0 2 ((gI s3 0 2) + 1) →
             ∀ x3 : Int, x3 = x1 + 1 →
             I1 x3 s5 ∧ μ1 x3 s5 < μ1 x1 s1) ∧
            (¬ r6 = 59 →
            Q 0 s3)))) ∧
         (¬ r5 = 0 →
         wp_M_here s3 (fun (r7 : Int) =>
          Rng (((10 * (gI s3 7 x1)) + r7) - 48) ∧
           ∀ s6 : MS, s6 = sI s3 7 x1 (((10 * (gI s3 7 x1)) + r7) - 48) →
           Rng ((gI s6 0 2) + 1) ∧
           ∀ s7 : MS, s7 = sI s6 0 2 ((gI s6 0 2) + 1) →
           wp_M_here s7 (fun (r8 : Int) =>
           Rng (p1 - 1) ∧
            (¬ x1 = (p1 - 1) →
            (r8 = 44 →
             Rng ((gI s7 0 2) + 1) ∧
              ∀ s8 : MS, s8 = sI s7 0 2 ((gI s7 0 2) + 1) →
              ∀ x4 : Int, x4 = x1 + 1 →
              I1 x4 s8 ∧ μ1 x4 s8 < μ1 x1 s1) ∧
             (¬ r8 = 44 →
             Q 0 s7)) ∧
            (x1 = (p1 - 1) →
            (r8 = 59 →
             Rng ((gI s7 0 2) + 1) ∧
              ∀ s9 : MS, s9 = sI s7 0 2 ((gI s7 0 2) + 1) →
              ∀ x5 : Int, x5 = x1 + 1 →
              I1 x5 s9 ∧ μ1 x5 s9 < μ1 x1 s1) ∧
             (¬ r8 = 59 →
             Q 0 s7))))))))) ∧
     (r2 = 0 →
     Q 0 s1))))
def wp_M_isTwo (s0 : MS) (Q : Int → Prop) : Prop :=
  ((gI s0 0 3) ≤ (gI s0 7 0) →
  Q 0) ∧
  (¬ (gI s0 0 3) ≤ (gI s0 7 0) →
  ((gI s0 0 3) ≤ (gI s0 7 1) →
   Q 0) ∧
   (¬ (gI s0 0 3) ≤ (gI s0 7 1) →
   ((gI s0 7 0) = (gI s0 7 1) →
    Q 0) ∧
    (¬ (gI s0 7 0) = (gI s0 7 1) →
    Q 1)))
def wp_M_readsHome (s0 : MS) (Q : Int → MS → Prop) : Prop :=
  wp_M_numbers 2 s0 (fun (r1 : Int) (s1 : MS) =>
  (r1 = 0 →
   Q 0 s1) ∧
   (¬ r1 = 0 →
   (3 < (gI s1 7 0) →
    Q 0 s1) ∧
    (¬ 3 < (gI s1 7 0) →
    (40 < (gI s1 7 1) →
     Q 0 s1) ∧
     (¬ 40 < (gI s1 7 1) →
     (¬ (gI s1 0 3) = 7 →
      wp_M_comesHome (gI s1 7 0) (gI s1 7 1) s1 (fun s2 : MS =>
       Q 1 s2)) ∧
      ((gI s1 0 3) = 7 →
      Q 0 s1)))))
def wp_M_readsWay (s0 : MS) (Q : Int → MS → Prop) : Prop :=
  wp_M_numbers 3 s0 (fun (r1 : Int) (s1 : MS) =>
  (r1 = 0 →
   Q 0 s1) ∧
   (¬ r1 = 0 →
   wp_M_isTwo s1 (fun (r2 : Int) =>
    (r2 = 0 →
     Q 0 s1) ∧
     (¬ r2 = 0 →
     wp_M_in (gI s1 7 2) 1 60 (fun (r3 : Int) =>
      (¬ r3 = 0 →
       wp_M_joins (gI s1 7 0) (gI s1 7 1) (gI s1 7 2) s1 (fun s2 : MS =>
        Q 1 s2)) ∧
       (r3 = 0 →
       Q 0 s1))))))
def wp_M_readsSnow (s0 : MS) (Q : Int → MS → Prop) : Prop :=
  wp_M_numbers 4 s0 (fun (r1 : Int) (s1 : MS) =>
  (r1 = 0 →
   Q 0 s1) ∧
   (¬ r1 = 0 →
   wp_M_isTwo s1 (fun (r2 : Int) =>
    (r2 = 0 →
     Q 0 s1) ∧
     (¬ r2 = 0 →
     ((gI s1 7 3) < (gI s1 7 2) →
      Q 0 s1) ∧
      (¬ (gI s1 7 3) < (gI s1 7 2) →
      ((gI s1 7 3) < 28 →
       wp_M_snows (gI s1 7 0) (gI s1 7 1) (gI s1 7 2) (gI s1 7 3) s1 (fun s2 : MS =>
        Q 1 s2)) ∧
       (¬ (gI s1 7 3) < 28 →
       Q 0 s1))))))
def wp_M_readsBell (s0 : MS) (Q : Int → MS → Prop) : Prop :=
  wp_M_numbers 1 s0 (fun (r1 : Int) (s1 : MS) =>
  (r1 = 0 →
   Q 0 s1) ∧
   (¬ r1 = 0 →
   ((gI s1 7 0) < 7 →
    ∀ s2 : MS, s2 = sI s1 0 4 (gI s1 7 0) →
     Q 1 s2) ∧
    (¬ (gI s1 7 0) < 7 →
    Q 0 s1)))
def wp_M_readsMost (s0 : MS) (Q : Int → MS → Prop) : Prop :=
  wp_M_numbers 1 s0 (fun (r1 : Int) (s1 : MS) =>
  (r1 = 0 →
   Q 0 s1) ∧
   (¬ r1 = 0 →
   (1 ≤ (gI s1 7 0) →
    ∀ s2 : MS, s2 = sI s1 0 5 (gI s1 7 0) →
     Q 1 s2) ∧
    (¬ 1 ≤ (gI s1 7 0) →
    Q 0 s1)))
def wp_M_readsItem (s0 : MS) (Q : Int → MS → Prop) : Prop :=
  wp_M_here s0 (fun (r1 : Int) =>
  Rng ((gI s0 0 2) + 1) ∧
   ∀ s1 : MS, s1 = sI s0 0 2 ((gI s0 0 2) + 1) →
   (r1 = 98 →
   wp_M_readsBell s1 (fun (r2 : Int) (s2 : MS) =>
    Q r2 s2)) ∧
   (r1 = 104 →
   wp_M_readsHome s1 (fun (r3 : Int) (s3 : MS) =>
    Q r3 s3)) ∧
   (r1 = 110 →
   wp_M_readsMost s1 (fun (r4 : Int) (s4 : MS) =>
    Q r4 s4)) ∧
   (r1 = 115 →
   wp_M_readsSnow s1 (fun (r5 : Int) (s5 : MS) =>
    Q r5 s5)) ∧
   (r1 = 119 →
   wp_M_readsWay s1 (fun (r6 : Int) (s6 : MS) =>
    Q r6 s6)) ∧
   (¬ r1 = 98 →
   ¬ r1 = 104 →
   ¬ r1 = 110 →
   ¬ r1 = 115 →
   ¬ r1 = 119 →
   Q 0 s1))
def wp_M_faultOf (s0 : MS) (Q : Int → MS → Prop) : Prop :=
  wp_M_anew s0 (fun s1 : MS =>
  ∀ s2 : MS, s2 = sI s1 0 2 0 →
   ∃ (I1 : MS → Prop) (μ1 : MS → Nat), I1 s2 ∧ ∀ (s3 : MS), I1 s3 →
   ((gI s3 0 0) ≤ (gI s3 0 2) →
   Q (-4) s3) ∧
   (¬ (gI s3 0 0) ≤ (gI s3 0 2) →
   wp_M_readsItem s3 (fun (r2 : Int) (s4 : MS) =>
    (¬ r2 = 0 →
     I1 s4 ∧ μ1 s4 < μ1 s3) ∧
     (r2 = 0 →
     Q (gI s3 0 2) s4))))
def wp_M_fault (s0 : MS) (Q : Int → MS → Prop) : Prop :=
  wp_M_faultOf s0 (fun (r1 : Int) (s1 : MS) =>
  Q r1 s1)
def wp_M_laid (s0 : MS) (Q : MS → Prop) : Prop :=
  ∀ s1 : MS, s1 = sI s0 0 12 (gI s0 0 3) →
  ∀ s2 : MS, s2 = sI s1 0 13 (gI s1 0 5) →
  ∃ (I1 : Int → MS → Prop) (μ1 : Int → MS → Nat), I1 0 s2 ∧ ∀ (x1 : Int) (s3 : MS), I1 x1 s3 →
  Rng x1 ∧
  (7 ≤ x1 →
  ∃ (I2 : Int → MS → Prop) (μ2 : Int → MS → Nat), I2 0 s3 ∧ ∀ (x2 : Int) (s4 : MS), I2 x2 s4 →
   Rng x2 ∧
   (49 ≤ x2 →
   ∃ (I3 : Int → MS → Prop) (μ3 : Int → MS → Nat), I3 0 s4 ∧ ∀ (x3 : Int) (s5 : MS), I3 x3 s5 →
    Rng x3 ∧
    (13 ≤ x3 →
    ∀ s6 : MS, s6 = sI s5 13 0 (gI s5 0 4) →
     ∀ s7 : MS, s7 = sI s6 13 5 (ishl 1 (gI s6 0 4)) →
     ∀ s8 : MS, s8 = sI s7 0 22 0 →
     ∀ s9 : MS, s9 = sI s8 0 31 0 →
     ∀ s10 : MS, s10 = sI s9 0 27 0 →
     Q s10) ∧
    (¬ 13 ≤ x3 →
    (0 ≤ x3 ∧ x3 < 13) ∧
     ∀ s11 : MS, s11 = sI s5 13 x3 0 →
     ∀ x4 : Int, x4 = x3 + 1 →
     I3 x4 s11 ∧ μ3 x4 s11 < μ3 x3 s5)) ∧
   (¬ 49 ≤ x2 →
   (0 ≤ x2 ∧ x2 < 49) ∧
    ∀ s12 : MS, s12 = sI s4 10 x2 (gI s4 4 x2) →
    ∀ s13 : MS, s13 = sI s12 11 x2 (gI s12 5 x2) →
    ∀ s14 : MS, s14 = sI s13 12 x2 (gI s13 6 x2) →
    ∀ x5 : Int, x5 = x2 + 1 →
    I2 x5 s14 ∧ μ2 x5 s14 < μ2 x2 s4)) ∧
  (¬ 7 ≤ x1 →
  (0 ≤ x1 ∧ x1 < 7) ∧
   ∀ s15 : MS, s15 = sI s3 8 x1 (gI s3 2 x1) →
   ∀ s16 : MS, s16 = sI s15 9 x1 (gI s15 3 x1) →
   ∀ x6 : Int, x6 = x1 + 1 →
   I1 x6 s16 ∧ μ1 x6 s16 < μ1 x1 s3)
def wp_M_lay (s0 : MS) (Q : Int → MS → Prop) : Prop :=
  wp_M_faultOf s0 (fun (r1 : Int) (s1 : MS) =>
  (¬ r1 = (-4) →
   Q (-2) s1) ∧
   (r1 = (-4) →
   ((gI s1 0 4) < (gI s1 0 3) →
    wp_M_laid s1 (fun s2 : MS =>
     Q (gI s2 0 12) s2)) ∧
    (¬ (gI s1 0 4) < (gI s1 0 3) →
    Q (-2) s1)))
def wp_M_isHome (p1 : Int) (s0 : MS) (Q : Int → Prop) : Prop :=
  Rng ((gI s0 0 12) - 1) ∧
  wp_M_in p1 0 ((gI s0 0 12) - 1) (fun (r1 : Int) =>
  Q r1)
def wp_M_pair (p1 : Int) (p2 : Int) (Q : Int → Prop) : Prop :=
  (p2 ≤ p1 →
  (0 ≤ (p1 * (p1 - 1)) ∧ (p1 * (p1 - 1)) < 2147483648) ∧
   Rng (((p1 * (p1 - 1)) / 2) + p2) ∧
   Q (((p1 * (p1 - 1)) / 2) + p2)) ∧
  (¬ p2 ≤ p1 →
  (0 ≤ (p2 * (p2 - 1)) ∧ (p2 * (p2 - 1)) < 2147483648) ∧
   Rng (((p2 * (p2 - 1)) / 2) + p1) ∧
   Q (((p2 * (p2 - 1)) / 2) + p1))
def wp_M_isOpen (p1 : Nat) (p2 : Int) (p3 : Int) (s0 : MS) (Q : Int → Prop) : Prop :=
  ∀ x1 : Int, x1 = ((7 * p2) + p3) →
  (0 ≤ x1 ∧ x1 < 49) ∧
  ((gI s0 10 x1) ≤ 0 →
  Q 0) ∧
  (¬ (gI s0 10 x1) ≤ 0 →
  (0 ≤ (gI s0 p1 1) ∧ (gI s0 p1 1) < 2147483648) ∧
   wp_M_in ((gI s0 p1 1) % 28) (gI s0 11 x1) (gI s0 12 x1) (fun (r1 : Int) =>
   (¬ r1 = 0 →
    Q 0) ∧
    (r1 = 0 →
    wp_M_pair p2 p3 (fun (r2 : Int) =>
     wp_M_has (gI s0 p1 4) r2 (fun (r3 : Int) =>
      (¬ r3 = 0 →
       Q 0) ∧
       (r3 = 0 →
       Q 1))))))
def wp_M_layMinutes (p1 : Nat) (p2 : Int) (s0 : MS) (Q : MS → Prop) : Prop :=
  ∃ (I1 : Int → MS → Prop) (μ1 : Int → MS → Nat), I1 0 s0 ∧ ∀ (x1 : Int) (s1 : MS), I1 x1 s1 →
  Rng x1 ∧
  ((gI s1 0 12) ≤ x1 →
  ∃ (I2 : Int → MS → Prop) (μ2 : Int → MS → Nat), I2 1 s1 ∧ ∀ (x2 : Int) (s2 : MS), I2 x2 s2 →
   Rng x2 ∧
   (x2 = 0 →
   Q s2) ∧
   (¬ x2 = 0 →
   ∃ (I3 : Int → Int → MS → Prop) (μ3 : Int → Int → MS → Nat), I3 0 0 s2 ∧ ∀ (x3 : Int) (x4 : Int) (s3 : MS), I3 x3 x4 s3 →
    Rng x4 ∧
    ((gI s3 0 12) ≤ x4 →
    I2 x3 s3 ∧ μ2 x3 s3 < μ2 x2 s2) ∧
    (¬ (gI s3 0 12) ≤ x4 →
    ∃ (I4 : Int → Int → MS → Prop) (μ4 : Int → Int → MS → Nat), I4 x3 0 s3 ∧ ∀ (x5 : Int) (x6 : Int) (s4 : MS), I4 x5 x6 s4 →
     Rng x6 ∧
     ((gI s4 0 12) ≤ x6 →
     ∀ x7 : Int, x7 = x4 + 1 →
      I3 x5 x7 s4 ∧ μ3 x5 x7 s4 < μ3 x3 x4 s3) ∧
     (¬ (gI s4 0 12) ≤ x6 →
     (x4 = x6 →
      ∀ x8 : Int, x8 = x6 + 1 →
       I4 x5 x8 s4 ∧ μ4 x5 x8 s4 < μ4 x5 x6 s4) ∧
      (¬ x4 = x6 →
      wp_M_isOpen p1 x4 x6 s4 (fun (r1 : Int) =>
       (r1 = 0 →
        ∀ x9 : Int, x9 = x6 + 1 →
         I4 x5 x9 s4 ∧ μ4 x5 x9 s4 < μ4 x5 x6 s4) ∧
        (¬ r1 = 0 →
        (0 ≤ x4 ∧ x4 < 7) ∧
         (0 ≤ ((7 * x4) + x6) ∧ ((7 * x4) + x6) < 49) ∧
         (0 ≤ x6 ∧ x6 < 7) ∧
         Rng ((gI s4 15 x4) + (gI s4 10 ((7 * x4) + x6))) ∧
         ((gI s4 15 x6) ≤ ((gI s4 15 x4) + (gI s4 10 ((7 * x4) + x6))) →
         ∀ x10 : Int, x10 = x6 + 1 →
          I4 x5 x10 s4 ∧ μ4 x5 x10 s4 < μ4 x5 x6 s4) ∧
         (¬ (gI s4 15 x6) ≤ ((gI s4 15 x4) + (gI s4 10 ((7 * x4) + x6))) →
         ∀ s5 : MS, s5 = sI s4 15 x6 ((gI s4 15 x4) + (gI s4 10 ((7 * x4) + x6))) →
          ∀ x11 : Int, x11 = x6 + 1 →
          I4 1 x11 s5 ∧ μ4 1 x11 s5 < μ4 x5 x6 s4)))))))) ∧
  (¬ (gI s1 0 12) ≤ x1 →
  (¬ x1 = p2 →
   (0 ≤ x1 ∧ x1 < 7) ∧
    ∀ s6 : MS, s6 = sI s1 15 x1 1000000 →
    ∀ x12 : Int, x12 = x1 + 1 →
    I1 x12 s6 ∧ μ1 x12 s6 < μ1 x1 s1) ∧
   (x1 = p2 →
   (0 ≤ x1 ∧ x1 < 7) ∧
    ∀ s7 : MS, s7 = sI s1 15 x1 0 →
    ∀ x13 : Int, x13 = x1 + 1 →
    I1 x13 s7 ∧ μ1 x13 s7 < μ1 x1 s1))
def wp_M_arrives (p1 : Nat) (p2 : Int) (s0 : MS) (Q : Int → Prop) : Prop :=
  wp_M_has (gI s0 p1 3) p2 (fun (r1 : Int) =>
  (¬ r1 = 0 →
   Q (-1)) ∧
   (r1 = 0 →
   (0 ≤ p2 ∧ p2 < 7) ∧
    ((gI s0 15 p2) ≤ (gI s0 0 13) →
    (¬ (gI s0 8 p2) = 1 →
     (¬ (gI s0 8 p2) = 2 →
      (¬ p2 = (gI s0 p1 0) →
       (¬ (gI s0 8 p2) = 3 →
        ∀ x1 : Int, x1 = (((gI s0 15 p2) + (gI s0 9 p2)) + 0) →
         wp_M_has (gI s0 p1 2) p2 (fun (r2 : Int) =>
         (r2 = 0 →
          Rng (x1 + 0) ∧
           Q (x1 + 0)) ∧
          (¬ r2 = 0 →
          Rng (x1 + 20) ∧
           Q (x1 + 20)))) ∧
        ((gI s0 8 p2) = 3 →
        ∀ x2 : Int, x2 = (((gI s0 15 p2) + (gI s0 9 p2)) + 15) →
         wp_M_has (gI s0 p1 2) p2 (fun (r3 : Int) =>
         (r3 = 0 →
          Rng (x2 + 0) ∧
           Q (x2 + 0)) ∧
          (¬ r3 = 0 →
          Rng (x2 + 20) ∧
           Q (x2 + 20))))) ∧
       (p2 = (gI s0 p1 0) →
       wp_M_has (gI s0 p1 2) p2 (fun (r4 : Int) =>
        (r4 = 0 →
         Q (0 + 0)) ∧
         (¬ r4 = 0 →
         Q (0 + 20))))) ∧
      ((gI s0 8 p2) = 2 →
      (0 ≤ (2 * (gI s0 15 p2)) ∧ (2 * (gI s0 15 p2)) < 2147483648) ∧
       ∀ x3 : Int, x3 = ((2 * (gI s0 15 p2)) / 3) →
       (¬ p2 = (gI s0 p1 0) →
       (¬ (gI s0 8 p2) = 3 →
        ∀ x4 : Int, x4 = ((x3 + (gI s0 9 p2)) + 0) →
         wp_M_has (gI s0 p1 2) p2 (fun (r5 : Int) =>
         (r5 = 0 →
          Rng (x4 + 0) ∧
           Q (x4 + 0)) ∧
          (¬ r5 = 0 →
          Rng (x4 + 20) ∧
           Q (x4 + 20)))) ∧
        ((gI s0 8 p2) = 3 →
        ∀ x5 : Int, x5 = ((x3 + (gI s0 9 p2)) + 15) →
         wp_M_has (gI s0 p1 2) p2 (fun (r6 : Int) =>
         (r6 = 0 →
          Rng (x5 + 0) ∧
           Q (x5 + 0)) ∧
          (¬ r6 = 0 →
          Rng (x5 + 20) ∧
           Q (x5 + 20))))) ∧
       (p2 = (gI s0 p1 0) →
       wp_M_has (gI s0 p1 2) p2 (fun (r7 : Int) =>
        (r7 = 0 →
         Q (0 + 0)) ∧
         (¬ r7 = 0 →
         Q (0 + 20)))))) ∧
     ((gI s0 8 p2) = 1 →
     ∀ x6 : Int, x6 = (2 * (gI s0 15 p2)) →
      (¬ p2 = (gI s0 p1 0) →
      (¬ (gI s0 8 p2) = 3 →
       ∀ x7 : Int, x7 = ((x6 + (gI s0 9 p2)) + 0) →
        wp_M_has (gI s0 p1 2) p2 (fun (r8 : Int) =>
        (r8 = 0 →
         Rng (x7 + 0) ∧
          Q (x7 + 0)) ∧
         (¬ r8 = 0 →
         Rng (x7 + 20) ∧
          Q (x7 + 20)))) ∧
       ((gI s0 8 p2) = 3 →
       ∀ x8 : Int, x8 = ((x6 + (gI s0 9 p2)) + 15) →
        wp_M_has (gI s0 p1 2) p2 (fun (r9 : Int) =>
        (r9 = 0 →
         Rng (x8 + 0) ∧
          Q (x8 + 0)) ∧
         (¬ r9 = 0 →
         Rng (x8 + 20) ∧
          Q (x8 + 20))))) ∧
      (p2 = (gI s0 p1 0) →
      wp_M_has (gI s0 p1 2) p2 (fun (r10 : Int) =>
       (r10 = 0 →
        Q (0 + 0)) ∧
        (¬ r10 = 0 →
        Q (0 + 20)))))) ∧
    (¬ (gI s0 15 p2) ≤ (gI s0 0 13) →
    Q (-1))))
def wp_M_latest (p1 : Nat) (p2 : Int) (s0 : MS) (Q : Int → MS → Prop) : Prop :=
  wp_M_layMinutes p1 (gI s0 p1 0) s0 (fun s1 : MS =>
  ∃ (I1 : Int → Int → Int → Prop) (μ1 : Int → Int → Int → Nat), I1 (-4) (-1) 0 ∧ ∀ (x1 : Int) (x2 : Int) (x3 : Int), I1 x1 x2 x3 →
   Rng x3 ∧
   ((gI s1 0 12) ≤ x3 →
   Rng x1 ∧
    Q x1 s1) ∧
   (¬ (gI s1 0 12) ≤ x3 →
   wp_M_has p2 x3 (fun (r2 : Int) =>
    (r2 = 0 →
     wp_M_arrives p1 x3 s1 (fun (r3 : Int) =>
      (r3 < 0 →
       Rng x2 ∧
        (r3 ≤ x2 →
        ∀ x4 : Int, x4 = x3 + 1 →
         I1 x1 x2 x4 ∧ μ1 x1 x2 x4 < μ1 x1 x2 x3) ∧
        (¬ r3 ≤ x2 →
        ∀ x5 : Int, x5 = x3 + 1 →
         I1 x1 r3 x5 ∧ μ1 x1 r3 x5 < μ1 x1 x2 x3)) ∧
       (¬ r3 < 0 →
       Rng x2 ∧
        (r3 < x2 →
        (r3 ≤ x2 →
         ∀ x6 : Int, x6 = x3 + 1 →
          I1 x1 x2 x6 ∧ μ1 x1 x2 x6 < μ1 x1 x2 x3) ∧
         (¬ r3 ≤ x2 →
         ∀ x7 : Int, x7 = x3 + 1 →
          I1 x1 r3 x7 ∧ μ1 x1 r3 x7 < μ1 x1 x2 x3)) ∧
        (¬ r3 < x2 →
        (r3 ≤ x2 →
         ∀ x8 : Int, x8 = x3 + 1 →
          I1 x3 x2 x8 ∧ μ1 x3 x2 x8 < μ1 x1 x2 x3) ∧
         (¬ r3 ≤ x2 →
         ∀ x9 : Int, x9 = x3 + 1 →
          I1 x3 r3 x9 ∧ μ1 x3 r3 x9 < μ1 x1 x2 x3))))) ∧
     (¬ r2 = 0 →
     Rng x2 ∧
      ((-1) ≤ x2 →
      ∀ x10 : Int, x10 = x3 + 1 →
       I1 x1 x2 x10 ∧ μ1 x1 x2 x10 < μ1 x1 x2 x3) ∧
      (¬ (-1) ≤ x2 →
      ∀ x11 : Int, x11 = x3 + 1 →
       I1 x1 (-1) x11 ∧ μ1 x1 (-1) x11 < μ1 x1 x2 x3)))))
def wp_M_goesBy (p1 : Nat) (s0 : MS) (Q : MS → Prop) : Prop :=
  wp_M_latest p1 0 s0 (fun (r1 : Int) (s1 : MS) =>
  ∃ (I1 : Int → MS → Prop) (μ1 : Int → MS → Nat), I1 0 s1 ∧ ∀ (x1 : Int) (s2 : MS), I1 x1 s2 →
   Rng x1 ∧
   ((gI s2 0 12) ≤ x1 →
   (¬ r1 = (-4) →
    ∀ s3 : MS, s3 = sI s2 p1 0 r1 →
     ∀ s4 : MS, s4 = sI s3 p1 5 (ior (gI s3 p1 5) (ishl 1 (gI s3 p1 0))) →
     ∀ s5 : MS, s5 = sI s4 p1 2 0 →
     Rng ((gI s5 p1 1) + 1) ∧
     ∀ s6 : MS, s6 = sI s5 p1 1 ((gI s5 p1 1) + 1) →
     Q s6) ∧
    (r1 = (-4) →
    ∀ s7 : MS, s7 = sI s2 p1 0 (gI s2 p1 0) →
     ∀ s8 : MS, s8 = sI s7 p1 5 (ior (gI s7 p1 5) (ishl 1 (gI s7 p1 0))) →
     ∀ s9 : MS, s9 = sI s8 p1 2 0 →
     Rng ((gI s9 p1 1) + 1) ∧
     ∀ s10 : MS, s10 = sI s9 p1 1 ((gI s9 p1 1) + 1) →
     Q s10)) ∧
   (¬ (gI s2 0 12) ≤ x1 →
   (0 ≤ (6 + (gI s2 p1 0)) ∧ (6 + (gI s2 p1 0)) < 13) ∧
    wp_M_arrives p1 x1 s2 (fun (r2 : Int) =>
    (r2 < 0 →
     Rng ((gI s2 p1 (6 + (gI s2 p1 0))) + 0) ∧
      ∀ s11 : MS, s11 = sI s2 p1 (6 + (gI s2 p1 0)) ((gI s2 p1 (6 + (gI s2 p1 0))) + 0) →
      ∀ x2 : Int, x2 = x1 + 1 →
      I1 x2 s11 ∧ μ1 x2 s11 < μ1 x1 s2) ∧
     (¬ r2 < 0 →
     Rng ((gI s2 p1 (6 + (gI s2 p1 0))) + 1) ∧
      ∀ s12 : MS, s12 = sI s2 p1 (6 + (gI s2 p1 0)) ((gI s2 p1 (6 + (gI s2 p1 0))) + 1) →
      ∀ x3 : Int, x3 = x1 + 1 →
      I1 x3 s12 ∧ μ1 x3 s12 < μ1 x1 s2))))
def wp_M_copyNow (s0 : MS) (Q : MS → Prop) : Prop :=
  ∃ (I1 : Int → MS → Prop) (μ1 : Int → MS → Nat), I1 0 s0 ∧ ∀ (x1 : Int) (s1 : MS), I1 x1 s1 →
  Rng x1 ∧
  (13 ≤ x1 →
  Q s1) ∧
  (¬ 13 ≤ x1 →
  (0 ≤ x1 ∧ x1 < 13) ∧
   ∀ s2 : MS, s2 = sI s1 14 x1 (gI s1 13 x1) →
   ∀ x2 : Int, x2 = x1 + 1 →
   I1 x2 s2 ∧ μ1 x2 s2 < μ1 x1 s1)
def wp_M_home (p1 : Int) (p2 : Int) (s0 : MS) (Q : Int → Prop) : Prop :=
  wp_M_isHome p1 s0 (fun (r1 : Int) =>
  (r1 = 0 →
   Q (-1)) ∧
   (¬ r1 = 0 →
   wp_M_in p2 0 6 (fun (r2 : Int) =>
    (¬ r2 = 0 →
     (p2 = 0 →
      (0 ≤ p1 ∧ p1 < 7) ∧
       Q (gI s0 8 p1)) ∧
      (p2 = 1 →
      (0 ≤ p1 ∧ p1 < 7) ∧
       Q (gI s0 9 p1)) ∧
      (p2 = 2 →
      (¬ (gI s0 13 0) = p1 →
       Q 0) ∧
       ((gI s0 13 0) = p1 →
       Q 1)) ∧
      (p2 = 3 →
      Q (iand (ishr (gI s0 13 5) p1) 1)) ∧
      (p2 = 4 →
      (0 ≤ (6 + p1) ∧ (6 + p1) < 13) ∧
       Q (gI s0 13 (6 + p1))) ∧
      (p2 = 5 →
      Q (iand (ishr (gI s0 13 3) p1) 1)) ∧
      (¬ p2 = 0 →
      ¬ p2 = 1 →
      ¬ p2 = 2 →
      ¬ p2 = 3 →
      ¬ p2 = 4 →
      ¬ p2 = 5 →
      Q (iand (ishr (gI s0 13 2) p1) 1))) ∧
     (r2 = 0 →
     Q (-1)))))
def wp_M_way (p1 : Int) (p2 : Int) (p3 : Int) (s0 : MS) (Q : Int → Prop) : Prop :=
  wp_M_isHome p1 s0 (fun (r1 : Int) =>
  (r1 = 0 →
   Q (-1)) ∧
   (¬ r1 = 0 →
   wp_M_isHome p2 s0 (fun (r2 : Int) =>
    (r2 = 0 →
     Q (-1)) ∧
     (¬ r2 = 0 →
     (p1 = p2 →
      Q (-1)) ∧
      (¬ p1 = p2 →
      wp_M_in p3 0 1 (fun (r3 : Int) =>
       (¬ r3 = 0 →
        (0 ≤ ((7 * p1) + p2) ∧ ((7 * p1) + p2) < 49) ∧
         (¬ (gI s0 10 ((7 * p1) + p2)) = 0 →
         (¬ p3 = 0 →
          wp_M_isOpen 13 p1 p2 s0 (fun (r4 : Int) =>
           (r4 = 0 →
            Q 0) ∧
            (¬ r4 = 0 →
            Q 1))) ∧
          (p3 = 0 →
          Q (gI s0 10 ((7 * p1) + p2)))) ∧
         ((gI s0 10 ((7 * p1) + p2)) = 0 →
         Q (-4))) ∧
        (r3 = 0 →
        Q (-1))))))))
def wp_M_far (p1 : Int) (p2 : Int) (s0 : MS) (Q : Int → MS → Prop) : Prop :=
  wp_M_isHome p1 s0 (fun (r1 : Int) =>
  (r1 = 0 →
   Q (-1) s0) ∧
   (¬ r1 = 0 →
   wp_M_isHome p2 s0 (fun (r2 : Int) =>
    (¬ r2 = 0 →
     wp_M_layMinutes 13 p1 s0 (fun s1 : MS =>
      (0 ≤ p2 ∧ p2 < 7) ∧
       ((gI s1 15 p2) < 1000000 →
       Q (gI s1 15 p2) s1) ∧
       (¬ (gI s1 15 p2) < 1000000 →
       Q (-4) s1))) ∧
     (r2 = 0 →
     Q (-1) s0))))
def wp_M_comes (p1 : Int) (s0 : MS) (Q : Int → MS → Prop) : Prop :=
  wp_M_isHome p1 s0 (fun (r1 : Int) =>
  (¬ r1 = 0 →
   wp_M_layMinutes 13 (gI s0 13 0) s0 (fun s1 : MS =>
    wp_M_arrives 13 p1 s1 (fun (r3 : Int) =>
     (0 ≤ r3 →
      Q r3 s1) ∧
      (¬ 0 ≤ r3 →
      Q (-4) s1)))) ∧
   (r1 = 0 →
   Q (-1) s0))
def wp_M_last (s0 : MS) (Q : Int → MS → Prop) : Prop :=
  wp_M_latest 13 0 s0 (fun (r1 : Int) (s1 : MS) =>
  Q r1 s1)
def wp_M_remember (s0 : MS) (Q : MS → Prop) : Prop :=
  ∃ (I1 : Int → MS → Prop) (μ1 : Int → MS → Nat), I1 0 s0 ∧ ∀ (x1 : Int) (s1 : MS), I1 x1 s1 →
  Rng x1 ∧
  (13 ≤ x1 →
  (0 ≤ ((gI s1 0 23) + 1) ∧ ((gI s1 0 23) + 1) < 2147483648) ∧
   ∀ s2 : MS, s2 = sI s1 0 23 (((gI s1 0 23) + 1) % 8) →
   (8 ≤ (gI s2 0 22) →
   Rng ((gI s2 0 22) + 0) ∧
    ∀ s3 : MS, s3 = sI s2 0 22 ((gI s2 0 22) + 0) →
    Q s3) ∧
   (¬ 8 ≤ (gI s2 0 22) →
   Rng ((gI s2 0 22) + 1) ∧
    ∀ s4 : MS, s4 = sI s2 0 22 ((gI s2 0 22) + 1) →
    Q s4)) ∧
  (¬ 13 ≤ x1 →
  (0 ≤ x1 ∧ x1 < 13) ∧
   (0 ≤ ((13 * (gI s1 0 23)) + x1) ∧ ((13 * (gI s1 0 23)) + x1) < 104) ∧
   ∀ s5 : MS, s5 = sI s1 16 ((13 * (gI s1 0 23)) + x1) (gI s1 13 x1) →
   ∀ x2 : Int, x2 = x1 + 1 →
   I1 x2 s5 ∧ μ1 x2 s5 < μ1 x1 s1)
def wp_M_pass (p1 : Int) (s0 : MS) (Q : Int → MS → Prop) : Prop :=
  wp_M_in p1 1 28 (fun (r1 : Int) =>
  (¬ r1 = 0 →
   wp_M_remember s0 (fun s1 : MS =>
    ∃ (I1 : Int → MS → Prop) (μ1 : Int → MS → Nat), I1 0 s1 ∧ ∀ (x1 : Int) (s2 : MS), I1 x1 s2 →
     Rng x1 ∧
     (p1 ≤ x1 →
     Q (gI s2 13 0) s2) ∧
     (¬ p1 ≤ x1 →
     wp_M_goesBy 13 s2 (fun s3 : MS =>
      ∀ x2 : Int, x2 = x1 + 1 →
       I1 x2 s3 ∧ μ1 x2 s3 < μ1 x1 s2)))) ∧
   (r1 = 0 →
   Q (-1) s0))
def wp_M_keepBack (p1 : Int) (s0 : MS) (Q : Int → MS → Prop) : Prop :=
  wp_M_isHome p1 s0 (fun (r1 : Int) =>
  (¬ r1 = 0 →
   wp_M_remember s0 (fun s1 : MS =>
    ∀ s2 : MS, s2 = sI s1 13 2 (ixor (gI s1 13 2) (ishl 1 p1)) →
     Q (iand (ishr (gI s2 13 2) p1) 1) s2)) ∧
   (r1 = 0 →
   Q (-1) s0))
def wp_M_sick (p1 : Int) (s0 : MS) (Q : Int → MS → Prop) : Prop :=
  wp_M_isHome p1 s0 (fun (r1 : Int) =>
  (¬ r1 = 0 →
   wp_M_remember s0 (fun s1 : MS =>
    ∀ s2 : MS, s2 = sI s1 13 3 (ixor (gI s1 13 3) (ishl 1 p1)) →
     Q (iand (ishr (gI s2 13 3) p1) 1) s2)) ∧
   (r1 = 0 →
   Q (-1) s0))
def wp_M_shut (p1 : Int) (p2 : Int) (s0 : MS) (Q : Int → MS → Prop) : Prop :=
  wp_M_isHome p1 s0 (fun (r1 : Int) =>
  (r1 = 0 →
   Q (-1) s0) ∧
   (¬ r1 = 0 →
   wp_M_isHome p2 s0 (fun (r2 : Int) =>
    (r2 = 0 →
     Q (-1) s0) ∧
     (¬ r2 = 0 →
     (¬ p1 = p2 →
      (0 ≤ ((7 * p1) + p2) ∧ ((7 * p1) + p2) < 49) ∧
       (¬ (gI s0 10 ((7 * p1) + p2)) = 0 →
       wp_M_remember s0 (fun s1 : MS =>
        wp_M_pair p1 p2 (fun (r4 : Int) =>
         ∀ s2 : MS, s2 = sI s1 13 4 (ixor (gI s1 13 4) (ishl 1 r4)) →
          wp_M_pair p1 p2 (fun (r5 : Int) =>
          Q (iand (ishr (gI s2 13 4) r5) 1) s2)))) ∧
       ((gI s0 10 ((7 * p1) + p2)) = 0 →
       Q (-2) s0)) ∧
      (p1 = p2 →
      Q (-1) s0)))))
def wp_M_undo (s0 : MS) (Q : Int → MS → Prop) : Prop :=
  (¬ (gI s0 0 22) = 0 →
  (0 ≤ (((gI s0 0 23) + 8) - 1) ∧ (((gI s0 0 23) + 8) - 1) < 2147483648) ∧
   ∀ s1 : MS, s1 = sI s0 0 23 ((((gI s0 0 23) + 8) - 1) % 8) →
   Rng ((gI s1 0 22) - 1) ∧
   ∀ s2 : MS, s2 = sI s1 0 22 ((gI s1 0 22) - 1) →
   ∃ (I1 : Int → MS → Prop) (μ1 : Int → MS → Nat), I1 0 s2 ∧ ∀ (x1 : Int) (s3 : MS), I1 x1 s3 →
   Rng x1 ∧
   (13 ≤ x1 →
   Q (gI s3 0 22) s3) ∧
   (¬ 13 ≤ x1 →
   (0 ≤ ((13 * (gI s3 0 23)) + x1) ∧ ((13 * (gI s3 0 23)) + x1) < 104) ∧
    (0 ≤ x1 ∧ x1 < 13) ∧
    ∀ s4 : MS, s4 = sI s3 13 x1 (gI s3 16 ((13 * (gI s3 0 23)) + x1)) →
    ∀ x2 : Int, x2 = x1 + 1 →
    I1 x2 s4 ∧ μ1 x2 s4 < μ1 x1 s3)) ∧
  ((gI s0 0 22) = 0 →
  Q (-2) s0)
def wp_M_behind (p1 : Int) (s0 : MS) (Q : Int → MS → Prop) : Prop :=
  wp_M_in p1 0 60 (fun (r1 : Int) =>
  (¬ r1 = 0 →
   wp_M_copyNow s0 (fun s1 : MS =>
    ∃ (I1 : Int → MS → Prop) (μ1 : Int → MS → Nat), I1 0 s1 ∧ ∀ (x1 : Int) (s2 : MS), I1 x1 s2 →
     Rng x1 ∧
     (p1 ≤ x1 →
     Q (gI s2 14 0) s2) ∧
     (¬ p1 ≤ x1 →
     wp_M_goesBy 14 s2 (fun s3 : MS =>
      ∀ x2 : Int, x2 = x1 + 1 →
       I1 x2 s3 ∧ μ1 x2 s3 < μ1 x1 s2)))) ∧
   (r1 = 0 →
   Q (-1) s0))
def wp_M_again (s0 : MS) (Q : Int → MS → Prop) : Prop :=
  wp_M_copyNow s0 (fun s1 : MS =>
  ∃ (I1 : Int → MS → Prop) (μ1 : Int → MS → Nat), I1 1 s1 ∧ ∀ (x1 : Int) (s2 : MS), I1 x1 s2 →
   Rng x1 ∧
   (56 < x1 →
   Q (-4) s2) ∧
   (¬ 56 < x1 →
   wp_M_goesBy 14 s2 (fun s3 : MS =>
    (¬ (gI s3 14 0) = (gI s3 13 0) →
     ∀ x2 : Int, x2 = x1 + 1 →
      I1 x2 s3 ∧ μ1 x2 s3 < μ1 x1 s2) ∧
     ((gI s3 14 0) = (gI s3 13 0) →
     Q x1 s3))))
def wp_M_nextAt (p1 : Int) (p2 : Int) (p3 : Int) (Q : Int → Prop) : Prop :=
  Rng (((56 * p1) + (8 * p2)) + p3) ∧
  Q (((56 * p1) + (8 * p2)) + p3)
def wp_M_yetAt (p1 : Int) (p2 : Int) (p3 : Int) (Q : Int → Prop) : Prop :=
  Rng (((896 * p1) + (128 * p2)) + p3) ∧
  Q (((896 * p1) + (128 * p2)) + p3)
def wp_M_layNexts (s0 : MS) (Q : MS → Prop) : Prop :=
  ∃ (I1 : Int → MS → Prop) (μ1 : Int → MS → Nat), I1 0 s0 ∧ ∀ (x1 : Int) (s1 : MS), I1 x1 s1 →
  Rng x1 ∧
  (28 ≤ x1 →
  Q s1) ∧
  (¬ 28 ≤ x1 →
  ∃ (I2 : Int → MS → Prop) (μ2 : Int → MS → Nat), I2 0 s1 ∧ ∀ (x2 : Int) (s2 : MS), I2 x2 s2 →
   Rng x2 ∧
   ((gI s2 0 12) ≤ x2 →
   ∀ x3 : Int, x3 = x1 + 1 →
    I1 x3 s2 ∧ μ1 x3 s2 < μ1 x1 s1) ∧
   (¬ (gI s2 0 12) ≤ x2 →
   ∃ (I3 : Int → MS → Prop) (μ3 : Int → MS → Nat), I3 0 s2 ∧ ∀ (x4 : Int) (s3 : MS), I3 x4 s3 →
    Rng x4 ∧
    ((gI s3 0 12) < x4 →
    ∀ x5 : Int, x5 = x2 + 1 →
     I2 x5 s3 ∧ μ2 x5 s3 < μ2 x2 s2) ∧
    (¬ (gI s3 0 12) < x4 →
    wp_M_copyNow s3 (fun s4 : MS =>
     Rng ((gI s4 13 1) + x1) ∧
      ∀ s5 : MS, s5 = sI s4 14 1 ((gI s4 13 1) + x1) →
      ∀ s6 : MS, s6 = sI s5 14 0 x2 →
      (¬ x4 = 0 →
      ∀ s7 : MS, s7 = sI s6 14 2 (ishl 1 (x4 - 1)) →
       wp_M_latest 14 0 s7 (fun (r2 : Int) (s8 : MS) =>
       wp_M_nextAt x1 x2 x4 (fun (r3 : Int) =>
        (¬ r2 = (-4) →
         (0 ≤ r3 ∧ r3 < 1568) ∧
          ∀ s9 : MS, s9 = sI s8 17 r3 r2 →
          ∀ x6 : Int, x6 = x4 + 1 →
          I3 x6 s9 ∧ μ3 x6 s9 < μ3 x4 s3) ∧
         (r2 = (-4) →
         (0 ≤ r3 ∧ r3 < 1568) ∧
          ∀ s10 : MS, s10 = sI s8 17 r3 x2 →
          ∀ x7 : Int, x7 = x4 + 1 →
          I3 x7 s10 ∧ μ3 x7 s10 < μ3 x4 s3)))) ∧
      (x4 = 0 →
      ∀ s11 : MS, s11 = sI s6 14 2 0 →
       wp_M_latest 14 0 s11 (fun (r4 : Int) (s12 : MS) =>
       wp_M_nextAt x1 x2 x4 (fun (r5 : Int) =>
        (¬ r4 = (-4) →
         (0 ≤ r5 ∧ r5 < 1568) ∧
          ∀ s13 : MS, s13 = sI s12 17 r5 r4 →
          ∀ x8 : Int, x8 = x4 + 1 →
          I3 x8 s13 ∧ μ3 x8 s13 < μ3 x4 s3) ∧
         (r4 = (-4) →
         (0 ≤ r5 ∧ r5 < 1568) ∧
          ∀ s14 : MS, s14 = sI s12 17 r5 x2 →
          ∀ x9 : Int, x9 = x4 + 1 →
          I3 x9 s14 ∧ μ3 x9 s14 < μ3 x4 s3))))))))
def wp_M_byChoice (p1 : Int) (p2 : Int) (p3 : Int) (p4 : Int) (s0 : MS) (Q : Int → Prop) : Prop :=
  wp_M_nextAt p1 p2 p4 (fun (r1 : Int) =>
  (0 ≤ r1 ∧ r1 < 1568) ∧
   Rng (p1 + 1) ∧
   wp_M_yetAt (p1 + 1) (gI s0 17 r1) (ior p3 (ishl 1 (gI s0 17 r1))) (fun (r2 : Int) =>
   (0 ≤ r2 ∧ r2 < 25984) ∧
    Rng (1 + (gI s0 18 r2)) ∧
    Q (1 + (gI s0 18 r2))))
def wp_M_layYet (s0 : MS) (Q : MS → Prop) : Prop :=
  ∀ x1 : Int, x1 = ((ishl 1 (gI s0 0 12)) - 1) →
  wp_M_layNexts s0 (fun s1 : MS =>
  ∃ (I1 : Int → MS → Prop) (μ1 : Int → MS → Nat), I1 28 s1 ∧ ∀ (x2 : Int) (s2 : MS), I1 x2 s2 →
   Rng x2 ∧
   (x2 < 0 →
   Q s2) ∧
   (¬ x2 < 0 →
   ∃ (I2 : Int → MS → Prop) (μ2 : Int → MS → Nat), I2 0 s2 ∧ ∀ (x3 : Int) (s3 : MS), I2 x3 s3 →
    Rng x3 ∧
    ((gI s3 0 12) ≤ x3 →
    ∀ x4 : Int, x4 = x2 + (-1) →
     I1 x4 s3 ∧ μ1 x4 s3 < μ1 x2 s2) ∧
    (¬ (gI s3 0 12) ≤ x3 →
    ∃ (I3 : Int → MS → Prop) (μ3 : Int → MS → Nat), I3 0 s3 ∧ ∀ (x5 : Int) (s4 : MS), I3 x5 s4 →
     Rng x5 ∧
     Rng x1 ∧
     (x1 < x5 →
     ∀ x6 : Int, x6 = x3 + 1 →
      I2 x6 s4 ∧ μ2 x6 s4 < μ2 x3 s3) ∧
     (¬ x1 < x5 →
     (¬ x5 = x1 →
      ∃ (I4 : Int → Int → Prop) (μ4 : Int → Int → Nat), I4 1000000 0 ∧ ∀ (x7 : Int) (x8 : Int), I4 x7 x8 →
       Rng x8 ∧
       ((gI s4 0 12) < x8 →
       wp_M_yetAt x2 x3 x5 (fun (r2 : Int) =>
        (0 ≤ r2 ∧ r2 < 25984) ∧
         Rng x7 ∧
         ∀ s5 : MS, s5 = sI s4 18 r2 x7 →
         ∀ x9 : Int, x9 = x5 + 1 →
         I3 x9 s5 ∧ μ3 x9 s5 < μ3 x5 s4)) ∧
       (¬ (gI s4 0 12) < x8 →
       (28 ≤ x2 →
        wp_M_yetAt x2 x3 x5 (fun (r3 : Int) =>
         (0 ≤ r3 ∧ r3 < 25984) ∧
          Rng x7 ∧
          ∀ s6 : MS, s6 = sI s4 18 r3 x7 →
          ∀ x10 : Int, x10 = x5 + 1 →
          I3 x10 s6 ∧ μ3 x10 s6 < μ3 x5 s4)) ∧
        (¬ 28 ≤ x2 →
        wp_M_byChoice x2 x3 x5 x8 s4 (fun (r4 : Int) =>
         Rng x7 ∧
          (x7 ≤ r4 →
          ∀ x11 : Int, x11 = x8 + 1 →
           I4 x7 x11 ∧ μ4 x7 x11 < μ4 x7 x8) ∧
          (¬ x7 ≤ r4 →
          ∀ x12 : Int, x12 = x8 + 1 →
           I4 r4 x12 ∧ μ4 r4 x12 < μ4 x7 x8))))) ∧
      (x5 = x1 →
      ∃ (I5 : Int → Int → Prop) (μ5 : Int → Int → Nat), I5 0 0 ∧ ∀ (x13 : Int) (x14 : Int), I5 x13 x14 →
       Rng x14 ∧
       ((gI s4 0 12) < x14 →
       wp_M_yetAt x2 x3 x5 (fun (r5 : Int) =>
        (0 ≤ r5 ∧ r5 < 25984) ∧
         Rng x13 ∧
         ∀ s7 : MS, s7 = sI s4 18 r5 x13 →
         ∀ x15 : Int, x15 = x5 + 1 →
         I3 x15 s7 ∧ μ3 x15 s7 < μ3 x5 s4)) ∧
       (¬ (gI s4 0 12) < x14 →
       (28 ≤ x2 →
        wp_M_yetAt x2 x3 x5 (fun (r6 : Int) =>
         (0 ≤ r6 ∧ r6 < 25984) ∧
          Rng x13 ∧
          ∀ s8 : MS, s8 = sI s4 18 r6 x13 →
          ∀ x16 : Int, x16 = x5 + 1 →
          I3 x16 s8 ∧ μ3 x16 s8 < μ3 x5 s4)) ∧
        (¬ 28 ≤ x2 →
        wp_M_yetAt x2 x3 x5 (fun (r7 : Int) =>
         (0 ≤ r7 ∧ r7 < 25984) ∧
          Rng x13 ∧
          ∀ s9 : MS, s9 = sI s4 18 r7 x13 →
          ∀ x17 : Int, x17 = x5 + 1 →
          I3 x17 s9 ∧ μ3 x17 s9 < μ3 x5 s4))))))))
def wp_M_each (p1 : Int) (s0 : MS) (Q : Int → MS → Prop) : Prop :=
  wp_M_in p1 0 28 (fun (r1 : Int) =>
  (¬ r1 = 0 →
   wp_M_layYet s0 (fun s1 : MS =>
    wp_M_yetAt 0 (gI s1 13 0) (gI s1 13 5) (fun (r3 : Int) =>
     (0 ≤ r3 ∧ r3 < 25984) ∧
      (1000000 ≤ (gI s1 18 r3) →
      Q (-4) s1) ∧
      (¬ 1000000 ≤ (gI s1 18 r3) →
      (p1 ≤ (gI s1 18 r3) →
       (¬ p1 = 0 →
        ∃ (I1 : Int → Int → Int → Int → Prop) (μ1 : Int → Int → Int → Int → Nat), I1 (gI s1 13 0) (gI s1 13 5) 0 0 ∧ ∀ (x1 : Int) (x2 : Int) (x3 : Int) (x4 : Int), I1 x1 x2 x3 x4 →
         Rng x4 ∧
         (p1 ≤ x4 →
         Rng x3 ∧
          (¬ x3 = 0 →
          Rng (x3 - 1) ∧
           Q (x3 - 1) s1) ∧
          (x3 = 0 →
          Q (-4) s1)) ∧
         (¬ p1 ≤ x4 →
         ∃ (I2 : Int → Prop) (μ2 : Int → Nat), I2 0 ∧ ∀ (x5 : Int), I2 x5 →
          Rng x1 ∧
          Rng x2 ∧
          Rng x5 ∧
          wp_M_byChoice x4 x1 x2 x5 s1 (fun (r4 : Int) =>
          wp_M_yetAt x4 x1 x2 (fun (r5 : Int) =>
           (0 ≤ r5 ∧ r5 < 25984) ∧
            (r4 = (gI s1 18 r5) →
            wp_M_nextAt x4 x1 x5 (fun (r6 : Int) =>
             (0 ≤ r6 ∧ r6 < 1568) ∧
              ∀ x6 : Int, x6 = (ior x2 (ishl 1 (gI s1 17 r6))) →
              ∀ x7 : Int, x7 = x4 + 1 →
              I1 (gI s1 17 r6) x6 x5 x7 ∧ μ1 (gI s1 17 r6) x6 x5 x7 < μ1 x1 x2 x3 x4)) ∧
            (¬ r4 = (gI s1 18 r5) →
            ∀ x8 : Int, x8 = x5 + 1 →
             I2 x8 ∧ μ2 x8 < μ2 x5))))) ∧
        (p1 = 0 →
        Q (gI s1 18 r3) s1)) ∧
       (¬ p1 ≤ (gI s1 18 r3) →
       Q (-4) s1))))) ∧
   (r1 = 0 →
   Q (-1) s0))
def wp_M_always (s0 : MS) (Q : Int → MS → Prop) : Prop :=
  ∀ x1 : Int, x1 = ((ishl 1 (gI s0 0 12)) - 1) →
  ∃ (I1 : Int → Int → MS → Prop) (μ1 : Int → Int → MS → Nat), I1 x1 0 s0 ∧ ∀ (x2 : Int) (x3 : Int) (s1 : MS), I1 x2 x3 s1 →
  Rng x3 ∧
  ((gI s1 0 12) ≤ x3 →
  Rng x2 ∧
   Q x2 s1) ∧
  (¬ (gI s1 0 12) ≤ x3 →
  wp_M_copyNow s1 (fun s2 : MS =>
   ∀ s3 : MS, s3 = sI s2 14 0 x3 →
    wp_M_latest 14 0 s3 (fun (r2 : Int) (s4 : MS) =>
    (¬ r2 = (-4) →
     ∀ x4 : Int, x4 = (iand x2 (ishl 1 r2)) →
      ∀ x5 : Int, x5 = x3 + 1 →
      I1 x4 x5 s4 ∧ μ1 x4 x5 s4 < μ1 x2 x3 s1) ∧
     (r2 = (-4) →
     ∀ x6 : Int, x6 = (iand x2 0) →
      ∀ x7 : Int, x7 = x3 + 1 →
      I1 x6 x7 s4 ∧ μ1 x6 x7 s4 < μ1 x2 x3 s1))))
def wp_M_never (s0 : MS) (Q : Int → MS → Prop) : Prop :=
  ∀ x1 : Int, x1 = (iand ((ishl 1 (gI s0 0 12)) - 1) (ixor (ishl 1 (gI s0 13 0)) (-1))) →
  wp_M_copyNow s0 (fun s1 : MS =>
  ∃ (I1 : Int → Int → MS → Prop) (μ1 : Int → Int → MS → Nat), I1 x1 0 s1 ∧ ∀ (x2 : Int) (x3 : Int) (s2 : MS), I1 x2 x3 s2 →
   Rng x3 ∧
   (56 ≤ x3 →
   Rng x2 ∧
    Q x2 s2) ∧
   (¬ 56 ≤ x3 →
   wp_M_goesBy 14 s2 (fun s3 : MS =>
    ∀ x4 : Int, x4 = (iand x2 (ixor (ishl 1 (gI s3 14 0)) (-1))) →
     ∀ x5 : Int, x5 = x3 + 1 →
     I1 x4 x5 s3 ∧ μ1 x4 x5 s3 < μ1 x2 x3 s2)))
def wp_M_see (p1 : Int) (p2 : Int) (s0 : MS) (Q : Int → MS → Prop) : Prop :=
  wp_M_isHome p1 s0 (fun (r1 : Int) =>
  (r1 = 0 →
   Q (-1) s0) ∧
   (¬ r1 = 0 →
   wp_M_in p2 1 28 (fun (r2 : Int) =>
    (¬ r2 = 0 →
     (¬ (gI s0 0 27) = 6 →
      (0 ≤ (2 * (gI s0 0 27)) ∧ (2 * (gI s0 0 27)) < 12) ∧
       ∀ s1 : MS, s1 = sI s0 19 (2 * (gI s0 0 27)) p1 →
       (0 ≤ ((2 * (gI s1 0 27)) + 1) ∧ ((2 * (gI s1 0 27)) + 1) < 12) ∧
       ∀ s2 : MS, s2 = sI s1 19 ((2 * (gI s1 0 27)) + 1) p2 →
       Rng ((gI s2 0 27) + 1) ∧
       ∀ s3 : MS, s3 = sI s2 0 27 ((gI s2 0 27) + 1) →
       Q (gI s3 0 27) s3) ∧
      ((gI s0 0 27) = 6 →
      Q (-3) s0)) ∧
     (r2 = 0 →
     Q (-1) s0))))
def wp_M_forget (s0 : MS) (Q : Int → MS → Prop) : Prop :=
  ∀ s1 : MS, s1 = sI s0 0 27 0 →
  Rng (gI s0 0 27) ∧
  Q (gI s0 0 27) s1
def wp_M_isSo (s0 : MS) (Q : Int → MS → Prop) : Prop :=
  ∃ (I1 : Int → Int → MS → Prop) (μ1 : Int → Int → MS → Nat), I1 1 1 s0 ∧ ∀ (x1 : Int) (x2 : Int) (s1 : MS), I1 x1 x2 s1 →
  Rng x2 ∧
  (28 < x2 →
  (x1 = 0 ∨ x1 = 1) ∧
   Q x1 s1) ∧
  (¬ 28 < x2 →
  wp_M_goesBy 14 s1 (fun s2 : MS =>
   ∃ (I2 : Int → Int → Prop) (μ2 : Int → Int → Nat), I2 x1 0 ∧ ∀ (x3 : Int) (x4 : Int), I2 x3 x4 →
    Rng x4 ∧
    ((gI s2 0 27) ≤ x4 →
    ∀ x5 : Int, x5 = x2 + 1 →
     I1 x3 x5 s2 ∧ μ1 x3 x5 s2 < μ1 x1 x2 s1) ∧
    (¬ (gI s2 0 27) ≤ x4 →
    Rng x3 ∧
     (x3 = 0 →
     ∀ x6 : Int, x6 = x4 + 1 →
      I2 0 x6 ∧ μ2 0 x6 < μ2 x3 x4) ∧
     (¬ x3 = 0 →
     (0 ≤ ((2 * x4) + 1) ∧ ((2 * x4) + 1) < 12) ∧
      (¬ (gI s2 19 ((2 * x4) + 1)) = x2 →
      ∀ x7 : Int, x7 = x4 + 1 →
       I2 1 x7 ∧ μ2 1 x7 < μ2 x3 x4) ∧
      ((gI s2 19 ((2 * x4) + 1)) = x2 →
      (0 ≤ (2 * x4) ∧ (2 * x4) < 12) ∧
       (¬ (gI s2 19 (2 * x4)) = (gI s2 14 0) →
       ∀ x8 : Int, x8 = x4 + 1 →
        I2 0 x8 ∧ μ2 0 x8 < μ2 x3 x4) ∧
       ((gI s2 19 (2 * x4)) = (gI s2 14 0) →
       ∀ x9 : Int, x9 = x4 + 1 →
        I2 1 x9 ∧ μ2 1 x9 < μ2 x3 x4))))))
def wp_M_fog (s0 : MS) (Q : Int → MS → Prop) : Prop :=
  ∃ (I1 : Int → Int → MS → Prop) (μ1 : Int → Int → MS → Nat), I1 0 0 s0 ∧ ∀ (x1 : Int) (x2 : Int) (s1 : MS), I1 x1 x2 s1 →
  Rng x2 ∧
  ((gI s1 0 12) ≤ x2 →
  Rng x1 ∧
   Q x1 s1) ∧
  (¬ (gI s1 0 12) ≤ x2 →
  wp_M_copyNow s1 (fun s2 : MS =>
   ∀ s3 : MS, s3 = sI s2 14 0 x2 →
    wp_M_isSo s3 (fun (r2 : Int) (s4 : MS) =>
    (r2 = 0 →
     ∀ x3 : Int, x3 = (ior x1 0) →
      ∀ x4 : Int, x4 = x2 + 1 →
      I1 x3 x4 s4 ∧ μ1 x3 x4 s4 < μ1 x1 x2 s1) ∧
     (¬ r2 = 0 →
     ∀ x5 : Int, x5 = (ior x1 (ishl 1 x2)) →
      ∀ x6 : Int, x6 = x2 + 1 →
      I1 x5 x6 s4 ∧ μ1 x5 x6 s4 < μ1 x1 x2 s1))))
def wp_M_tripped (s0 : MS) (Q : Int → MS → Prop) : Prop :=
  wp_M_copyNow s0 (fun s1 : MS =>
  wp_M_isSo s1 (fun (r2 : Int) (s2 : MS) =>
   (r2 = 0 →
    ∃ (I1 : Int → Int → MS → Prop) (μ1 : Int → Int → MS → Nat), I1 0 0 s2 ∧ ∀ (x1 : Int) (x2 : Int) (s3 : MS), I1 x1 x2 s3 →
     Rng x2 ∧
     ((gI s3 0 12) ≤ x2 →
     Rng x1 ∧
      Q x1 s3) ∧
     (¬ (gI s3 0 12) ≤ x2 →
     wp_M_copyNow s3 (fun s4 : MS =>
      ∀ s5 : MS, s5 = sI s4 14 2 (ior (gI s4 14 2) (ishl 1 x2)) →
       wp_M_isSo s5 (fun (r4 : Int) (s6 : MS) =>
       (r4 = 0 →
        ∀ x3 : Int, x3 = (ior x1 0) →
         ∀ x4 : Int, x4 = x2 + 1 →
         I1 x3 x4 s6 ∧ μ1 x3 x4 s6 < μ1 x1 x2 s3) ∧
        (¬ r4 = 0 →
        ∀ x5 : Int, x5 = (ior x1 (ishl 1 x2)) →
         ∀ x6 : Int, x6 = x2 + 1 →
         I1 x5 x6 s6 ∧ μ1 x5 x6 s6 < μ1 x1 x2 s3))))) ∧
    (¬ r2 = 0 →
    ∃ (I2 : Int → Int → MS → Prop) (μ2 : Int → Int → MS → Nat), I2 128 0 s2 ∧ ∀ (x7 : Int) (x8 : Int) (s7 : MS), I2 x7 x8 s7 →
     Rng x8 ∧
     ((gI s7 0 12) ≤ x8 →
     Rng x7 ∧
      Q x7 s7) ∧
     (¬ (gI s7 0 12) ≤ x8 →
     wp_M_copyNow s7 (fun s8 : MS =>
      ∀ s9 : MS, s9 = sI s8 14 2 (ior (gI s8 14 2) (ishl 1 x8)) →
       wp_M_isSo s9 (fun (r6 : Int) (s10 : MS) =>
       (r6 = 0 →
        ∀ x9 : Int, x9 = (ior x7 0) →
         ∀ x10 : Int, x10 = x8 + 1 →
         I2 x9 x10 s10 ∧ μ2 x9 x10 s10 < μ2 x7 x8 s7) ∧
        (¬ r6 = 0 →
        ∀ x11 : Int, x11 = (ior x7 (ishl 1 x8)) →
         ∀ x12 : Int, x12 = x8 + 1 →
         I2 x11 x12 s10 ∧ μ2 x11 x12 s10 < μ2 x7 x8 s7)))))))
def wp_M_common (p1 : Int64) (p2 : Int64) (Q : Int64 → Prop) : Prop :=
  ∃ (I1 : Int64 → Int64 → Prop) (μ1 : Int64 → Int64 → Nat), I1 p1 p2 ∧ ∀ (y1 : Int64) (y2 : Int64), I1 y1 y2 →
  (y2 = (0 : Int64) →
  Q y1) ∧
  (¬ y2 = (0 : Int64) →
  ∀ y3 : Int64, y3 = (lrem y1 y2) →
   I1 y2 y3 ∧ μ1 y2 y3 < μ1 y1 y2)
def wp_M_spreads (p1 : Int) (p2 : Int) (s0 : MS) (Q : MS → Prop) : Prop :=
  ∃ (I1 : Int → MS → Prop) (μ1 : Int → MS → Nat), I1 0 s0 ∧ ∀ (x1 : Int) (s1 : MS), I1 x1 s1 →
  Rng x1 ∧
  ((gI s1 0 12) ≤ x1 →
  ∃ (I2 : Int → MS → Prop) (μ2 : Int → MS → Nat), I2 0 s1 ∧ ∀ (x2 : Int) (s2 : MS), I2 x2 s2 →
   Rng x2 ∧
   ((gI s2 0 12) ≤ x2 →
   ∃ (I3 : Int → MS → Prop) (μ3 : Int → MS → Nat), I3 0 s2 ∧ ∀ (x3 : Int) (s3 : MS), I3 x3 s3 →
    Rng x3 ∧
    ((gI s3 0 12) ≤ x3 →
    Q s3) ∧
    (¬ (gI s3 0 12) ≤ x3 →
    (0 ≤ x3 ∧ x3 < 7) ∧
     ∀ s4 : MS, s4 = sL s3 20 x3 (gL s3 21 x3) →
     ∀ x4 : Int, x4 = x3 + 1 →
     I3 x4 s4 ∧ μ3 x4 s4 < μ3 x3 s3)) ∧
   (¬ (gI s2 0 12) ≤ x2 →
   ∃ (I4 : Int → MS → Prop) (μ4 : Int → MS → Nat), I4 0 s2 ∧ ∀ (x5 : Int) (s5 : MS), I4 x5 s5 →
    Rng x5 ∧
    ((ishl 1 (gI s5 0 12)) ≤ x5 →
    ∀ x6 : Int, x6 = x2 + 1 →
     I2 x6 s5 ∧ μ2 x6 s5 < μ2 x2 s2) ∧
    (¬ (ishl 1 (gI s5 0 12)) ≤ x5 →
    (0 ≤ x2 ∧ x2 < 7) ∧
     ∀ y1 : Int64, y1 = (gL s5 20 x2) →
     ∃ (I5 : Int64 → Int → Prop) (μ5 : Int64 → Int → Nat), I5 y1 0 ∧ ∀ (y2 : Int64) (x7 : Int), I5 y2 x7 →
     Rng x7 ∧
     ((gI s5 0 12) ≤ x7 →
     (¬ (0 : Int64) < y2 →
      ∀ x8 : Int, x8 = x5 + 1 →
       I4 x8 s5 ∧ μ4 x8 s5 < μ4 x5 s5) ∧
      ((0 : Int64) < y2 →
      wp_M_copyNow s5 (fun s6 : MS =>
       Rng ((gI s6 14 1) + p1) ∧
        ∀ s7 : MS, s7 = sI s6 14 1 ((gI s6 14 1) + p1) →
        ∀ s8 : MS, s8 = sI s7 14 0 x2 →
        (¬ p1 = 0 →
        ∀ s9 : MS, s9 = sI s8 14 2 0 →
         wp_M_latest 14 x5 s9 (fun (r2 : Int) (s10 : MS) =>
         (¬ r2 = (-4) →
          (0 ≤ r2 ∧ r2 < 7) ∧
           ∀ s11 : MS, s11 = sL s10 21 r2 ((gL s10 21 r2) + y2) →
           ∀ x9 : Int, x9 = x5 + 1 →
           I4 x9 s11 ∧ μ4 x9 s11 < μ4 x5 s5) ∧
          (r2 = (-4) →
          ∀ s12 : MS, s12 = sL s10 21 x2 ((gL s10 21 x2) + y2) →
           ∀ x10 : Int, x10 = x5 + 1 →
           I4 x10 s12 ∧ μ4 x10 s12 < μ4 x5 s5))) ∧
        (p1 = 0 →
        ∀ s13 : MS, s13 = sI s8 14 2 (gI s8 13 2) →
         wp_M_latest 14 x5 s13 (fun (r3 : Int) (s14 : MS) =>
         (¬ r3 = (-4) →
          (0 ≤ r3 ∧ r3 < 7) ∧
           ∀ s15 : MS, s15 = sL s14 21 r3 ((gL s14 21 r3) + y2) →
           ∀ x11 : Int, x11 = x5 + 1 →
           I4 x11 s15 ∧ μ4 x11 s15 < μ4 x5 s5) ∧
          (r3 = (-4) →
          ∀ s16 : MS, s16 = sL s14 21 x2 ((gL s14 21 x2) + y2) →
           ∀ x12 : Int, x12 = x5 + 1 →
           I4 x12 s16 ∧ μ4 x12 s16 < μ4 x5 s5)))))) ∧
     (¬ (gI s5 0 12) ≤ x7 →
     wp_M_has x5 x7 (fun (r4 : Int) =>
      wp_M_has (gI s5 13 3) x7 (fun (r5 : Int) =>
       (r5 = 0 →
        (r4 = 0 →
         ∀ y3 : Int64, y3 = (y2 * (i2l (10 - p2))) →
          ∀ x13 : Int, x13 = x7 + 1 →
          I5 y3 x13 ∧ μ5 y3 x13 < μ5 y2 x7) ∧
         (¬ r4 = 0 →
         ∀ y4 : Int64, y4 = (y2 * (i2l p2)) →
          ∀ x14 : Int, x14 = x7 + 1 →
          I5 y4 x14 ∧ μ5 y4 x14 < μ5 y2 x7)) ∧
        (¬ r5 = 0 →
        (r4 = 0 →
         ∀ y5 : Int64, y5 = (y2 * (1 : Int64)) →
          ∀ x15 : Int, x15 = x7 + 1 →
          I5 y5 x15 ∧ μ5 y5 x15 < μ5 y2 x7) ∧
         (¬ r4 = 0 →
         ∀ y6 : Int64, y6 = (y2 * (0 : Int64)) →
          ∀ x16 : Int, x16 = x7 + 1 →
          I5 y6 x16 ∧ μ5 y6 x16 < μ5 y2 x7)))))))) ∧
  (¬ (gI s1 0 12) ≤ x1 →
  (0 ≤ x1 ∧ x1 < 7) ∧
   ∀ s17 : MS, s17 = sL s1 21 x1 (0 : Int64) →
   ∀ x17 : Int, x17 = x1 + 1 →
   I1 x17 s17 ∧ μ1 x17 s17 < μ1 x1 s1)
def wp_M_measles (p1 : Int) (p2 : Int) (p3 : Int) (p4 : Int) (s0 : MS) (Q : Int64 → MS → Prop) : Prop :=
  wp_M_isHome p1 s0 (fun (r1 : Int) =>
  (r1 = 0 →
   Q (-1 : Int64) s0) ∧
   (¬ r1 = 0 →
   wp_M_in p2 0 2 (fun (r2 : Int) =>
    (r2 = 0 →
     Q (-1 : Int64) s0) ∧
     (¬ r2 = 0 →
     wp_M_in p3 0 10 (fun (r3 : Int) =>
      (r3 = 0 →
       Q (-1 : Int64) s0) ∧
       (¬ r3 = 0 →
       wp_M_in p4 0 1 (fun (r4 : Int) =>
        (¬ r4 = 0 →
         ∃ (I1 : Int → MS → Prop) (μ1 : Int → MS → Nat), I1 0 s0 ∧ ∀ (x1 : Int) (s1 : MS), I1 x1 s1 →
          Rng x1 ∧
          ((gI s1 0 12) ≤ x1 →
          ∃ (I2 : Int64 → Int → MS → Prop) (μ2 : Int64 → Int → MS → Nat), I2 (1 : Int64) 0 s1 ∧ ∀ (y1 : Int64) (x2 : Int) (s2 : MS), I2 y1 x2 s2 →
           Rng x2 ∧
           (p2 ≤ x2 →
           (0 ≤ p1 ∧ p1 < 7) ∧
            wp_M_common (gL s2 20 p1) y1 (fun (r5 : Int64) =>
            (¬ p4 = 0 →
             (¬ r5 = 0) ∧
              Q (y1 / r5) s2) ∧
             (p4 = 0 →
             (¬ r5 = 0) ∧
              Q ((gL s2 20 p1) / r5) s2))) ∧
           (¬ p2 ≤ x2 →
           wp_M_spreads x2 p3 s2 (fun s3 : MS =>
            ∃ (I3 : Int64 → Int → Prop) (μ3 : Int64 → Int → Nat), I3 y1 0 ∧ ∀ (y2 : Int64) (x3 : Int), I3 y2 x3 →
             Rng x3 ∧
             ((gI s3 0 12) ≤ x3 →
             ∀ x4 : Int, x4 = x2 + 1 →
              I2 y2 x4 s3 ∧ μ2 y2 x4 s3 < μ2 y1 x2 s2) ∧
             (¬ (gI s3 0 12) ≤ x3 →
             wp_M_has (gI s3 13 3) x3 (fun (r7 : Int) =>
              (r7 = 0 →
               ∀ y3 : Int64, y3 = (y2 * (10 : Int64)) →
                ∀ x5 : Int, x5 = x3 + 1 →
                I3 y3 x5 ∧ μ3 y3 x5 < μ3 y2 x3) ∧
               (¬ r7 = 0 →
               ∀ y4 : Int64, y4 = (y2 * (1 : Int64)) →
                ∀ x6 : Int, x6 = x3 + 1 →
                I3 y4 x6 ∧ μ3 y4 x6 < μ3 y2 x3)))))) ∧
          (¬ (gI s1 0 12) ≤ x1 →
          (¬ x1 = (gI s1 13 0) →
           (0 ≤ x1 ∧ x1 < 7) ∧
            ∀ s4 : MS, s4 = sL s1 20 x1 (0 : Int64) →
            ∀ x7 : Int, x7 = x1 + 1 →
            I1 x7 s4 ∧ μ1 x7 s4 < μ1 x1 s1) ∧
           (x1 = (gI s1 13 0) →
           (0 ≤ x1 ∧ x1 < 7) ∧
            ∀ s5 : MS, s5 = sL s1 20 x1 (1 : Int64) →
            ∀ x8 : Int, x8 = x1 + 1 →
            I1 x8 s5 ∧ μ1 x8 s5 < μ1 x1 s1))) ∧
         (r4 = 0 →
         Q (-1 : Int64) s0))))))))
def wp_M_soups (p1 : Nat) (s0 : MS) (Q : Int → Prop) : Prop :=
  ∃ (I1 : Int → Int → Prop) (μ1 : Int → Int → Nat), I1 0 0 ∧ ∀ (x1 : Int) (x2 : Int), I1 x1 x2 →
  Rng x2 ∧
  (7 ≤ x2 →
  Rng x1 ∧
   Q x1) ∧
  (¬ 7 ≤ x2 →
  (0 ≤ (6 + x2) ∧ (6 + x2) < 13) ∧
   ∀ x3 : Int, x3 = (x1 + (gI s0 p1 (6 + x2))) →
   ∀ x4 : Int, x4 = x2 + 1 →
   I1 x3 x4 ∧ μ1 x3 x4 < μ1 x1 x2)
def wp_M_year (p1 : Int) (p2 : Int) (p3 : Int) (s0 : MS) (Q : Int → MS → Prop) : Prop :=
  wp_M_in p1 0 9999 (fun (r1 : Int) =>
  (r1 = 0 →
   Q (-1) s0) ∧
   (¬ r1 = 0 →
   wp_M_in p2 1 60 (fun (r2 : Int) =>
    (r2 = 0 →
     Q (-1) s0) ∧
     (¬ r2 = 0 →
     wp_M_in p3 0 1 (fun (r3 : Int) =>
      (¬ r3 = 0 →
       wp_M_copyNow s0 (fun s1 : MS =>
        ∃ (I1 : Int → MS → Prop) (μ1 : Int → MS → Nat), I1 0 s1 ∧ ∀ (x1 : Int) (s2 : MS), I1 x1 s2 →
         Rng x1 ∧
         (p2 ≤ x1 →
         (¬ p3 = 0 →
          wp_M_soups 14 s2 (fun (r5 : Int) =>
           wp_M_soups 13 s2 (fun (r6 : Int) =>
            Rng (r5 - r6) ∧
             Q (r5 - r6) s2))) ∧
          (p3 = 0 →
          Q (gI s2 14 0) s2)) ∧
         (¬ p2 ≤ x1 →
         ∀ y1 : Int64, y1 = ((((7919 : Int64) * (i2l p1)) + ((6151 : Int64) * (i2l x1))) + (1 : Int64)) →
          ∀ x2 : Int, x2 = (l2i ((lrem (y1 * y1) (65521 : Int64)) / (2 : Int64))) →
          (0 ≤ x2 ∧ x2 < 2147483648) ∧
          (0 ≤ (x2 / 8) ∧ (x2 / 8) < 2147483648) ∧
          (¬ ((x2 / 8) % 2) = 0 →
          ∀ s3 : MS, s3 = sI s2 14 2 (ior (gI s2 14 2) 0) →
           wp_M_goesBy 14 s3 (fun s4 : MS =>
           ∀ x3 : Int, x3 = x1 + 1 →
            I1 x3 s4 ∧ μ1 x3 s4 < μ1 x1 s2)) ∧
          (((x2 / 8) % 2) = 0 →
          (0 ≤ x2 ∧ x2 < 2147483648) ∧
           (0 < (gI s2 0 12) ∧ (gI s2 0 12) < 2147483648) ∧
           ∀ s5 : MS, s5 = sI s2 14 2 (ior (gI s2 14 2) (ishl 1 (x2 % (gI s2 0 12)))) →
           wp_M_goesBy 14 s5 (fun s6 : MS =>
           ∀ x4 : Int, x4 = x1 + 1 →
            I1 x4 s6 ∧ μ1 x4 s6 < μ1 x1 s2))))) ∧
       (r3 = 0 →
       Q (-1) s0))))))
def wp_M_keep (s0 : MS) (Q : Int → MS → Prop) : Prop :=
  (¬ (gI s0 0 31) = 2 →
  ∃ (I1 : Int → MS → Prop) (μ1 : Int → MS → Nat), I1 0 s0 ∧ ∀ (x1 : Int) (s1 : MS), I1 x1 s1 →
   Rng x1 ∧
   (13 ≤ x1 →
   Rng ((gI s1 0 31) + 1) ∧
    ∀ s2 : MS, s2 = sI s1 0 31 ((gI s1 0 31) + 1) →
    Q (gI s2 0 31) s2) ∧
   (¬ 13 ≤ x1 →
   (0 ≤ x1 ∧ x1 < 13) ∧
    (0 ≤ ((13 * (gI s1 0 31)) + x1) ∧ ((13 * (gI s1 0 31)) + x1) < 26) ∧
    ∀ s3 : MS, s3 = sI s1 22 ((13 * (gI s1 0 31)) + x1) (gI s1 13 x1) →
    ∀ x2 : Int, x2 = x1 + 1 →
    I1 x2 s3 ∧ μ1 x2 s3 < μ1 x1 s1)) ∧
  ((gI s0 0 31) = 2 →
  Q (-3) s0)
def wp_M_back (s0 : MS) (Q : Int → MS → Prop) : Prop :=
  (¬ (gI s0 0 31) = 0 →
  Rng ((gI s0 0 31) - 1) ∧
   ∀ s1 : MS, s1 = sI s0 0 31 ((gI s0 0 31) - 1) →
   ∃ (I1 : Int → MS → Prop) (μ1 : Int → MS → Nat), I1 0 s1 ∧ ∀ (x1 : Int) (s2 : MS), I1 x1 s2 →
   Rng x1 ∧
   (13 ≤ x1 →
   ∀ s3 : MS, s3 = sI s2 0 22 0 →
    Q (gI s3 0 31) s3) ∧
   (¬ 13 ≤ x1 →
   (0 ≤ ((13 * (gI s2 0 31)) + x1) ∧ ((13 * (gI s2 0 31)) + x1) < 26) ∧
    (0 ≤ x1 ∧ x1 < 13) ∧
    ∀ s4 : MS, s4 = sI s2 13 x1 (gI s2 22 ((13 * (gI s2 0 31)) + x1)) →
    ∀ x2 : Int, x2 = x1 + 1 →
    I1 x2 s4 ∧ μ1 x2 s4 < μ1 x1 s2)) ∧
  ((gI s0 0 31) = 0 →
  Q (-2) s0)
def wp_M_wayMany (s0 : MS) (Q : Int → Prop) : Prop :=
  ∃ (I1 : Int → Int → Prop) (μ1 : Int → Int → Nat), I1 0 0 ∧ ∀ (x1 : Int) (x2 : Int), I1 x1 x2 →
  Rng x2 ∧
  (49 ≤ x2 →
  (0 ≤ x1 ∧ x1 < 2147483648) ∧
   Q (x1 / 2)) ∧
  (¬ 49 ≤ x2 →
  (0 ≤ x2 ∧ x2 < 49) ∧
   ((gI s0 10 x2) ≤ 0 →
   ∀ x3 : Int, x3 = (x1 + 0) →
    ∀ x4 : Int, x4 = x2 + 1 →
    I1 x3 x4 ∧ μ1 x3 x4 < μ1 x1 x2) ∧
   (¬ (gI s0 10 x2) ≤ 0 →
   ∀ x5 : Int, x5 = (x1 + 1) →
    ∀ x6 : Int, x6 = x2 + 1 →
    I1 x5 x6 ∧ μ1 x5 x6 < μ1 x1 x2))
def wp_M_count (p1 : Int) (s0 : MS) (Q : Int → Prop) : Prop :=
  (p1 = 0 →
  Q (gI s0 0 12)) ∧
  (p1 = 1 →
  wp_M_wayMany s0 (fun (r1 : Int) =>
   Q r1)) ∧
  (p1 = 2 →
  wp_M_bits (gI s0 13 4) (fun (r2 : Int) =>
   Q r2)) ∧
  (p1 = 3 →
  Q (gI s0 13 1)) ∧
  (p1 = 4 →
  Q (gI s0 13 0)) ∧
  (p1 = 5 →
  wp_M_bits (gI s0 13 3) (fun (r3 : Int) =>
   Q r3)) ∧
  (p1 = 6 →
  wp_M_soups 13 s0 (fun (r4 : Int) =>
   Q r4)) ∧
  (p1 = 7 →
  Q (gI s0 0 27)) ∧
  (p1 = 8 →
  Q (gI s0 0 22)) ∧
  (p1 = 9 →
  Q (gI s0 0 31)) ∧
  (p1 = 10 →
  Q (gI s0 0 0)) ∧
  (¬ p1 = 0 →
  ¬ p1 = 1 →
  ¬ p1 = 2 →
  ¬ p1 = 3 →
  ¬ p1 = 4 →
  ¬ p1 = 5 →
  ¬ p1 = 6 →
  ¬ p1 = 7 →
  ¬ p1 = 8 →
  ¬ p1 = 9 →
  ¬ p1 = 10 →
  Q (-1))
