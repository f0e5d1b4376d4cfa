/-! ===== PRINTED BY wip/gen/gen.py: what each method asks and does, over numbers and rows ===== -/
abbrev wX0 (ad : Nat → Nat) (cA : Nat → ClassId) (nW : Nat) (nH : Nat) (ff : Int32) (fd : Int32) (cols : Nat → Int64) (rows : Nat → Int64) (ends : Nat → Int64) (ecost : Nat → Int32) (ecnt : Nat → Int32) (tails : Nat → Int32) (longer : Nat → Int32) : va_W := [(ad 0, .inr (1, [.int (nI nW), .int (nI nH), .ref (ad 1), .ref (ad 2), .ref (ad 3), .ref (ad 4), .ref (ad 5), .int ff, .int fd, .ref (ad 6), .ref (ad 7)])), (ad 1, .inl (cA 1, nW, .inr (.inl cols))), (ad 2, .inl (cA 2, nH, .inr (.inl rows))), (ad 3, .inl (cA 3, ((nW + 1) * 40), .inr (.inl ends))), (ad 4, .inl (cA 4, ((nW + 1) * 40), .inl ecost)), (ad 5, .inl (cA 5, (nW + 1), .inl ecnt)), (ad 6, .inl (cA 6, (nW + 1), .inl tails)), (ad 7, .inl (cA 7, (nW + 1), .inl longer))]
abbrev tX0 (cA : Nat → ClassId) : List (ClassId × FieldType) := [(cA 1, .long), (cA 2, .long), (cA 3, .long), (cA 4, .int), (cA 5, .int), (cA 6, .int), (cA 7, .int)]
abbrev wX1 (ad : Nat → Nat) (cA : Nat → ClassId) (nW : Nat) (nH : Nat) (th : Int32) (fn : Int32) (wd : Int32) (dk : Nat → Int32) (mn : Nat → Int32) (cs : Nat → Int64) (nx : Nat → Int32) (gs : Nat → Int32) (pr : Nat → Int64) (ln : Nat → Int32) (wy : Nat → Int32) (ct : Nat → Int64) (bf : Nat → Int64) (sg : Nat → Int64) (my : Nat → Int32) : va_W := [(ad 0, .inr (2, [.int th, .int (nI nW), .int (nI nH), .ref (ad 1), .ref (ad 2), .ref (ad 3), .ref (ad 4), .ref (ad 5), .int fn, .ref (ad 6), .ref (ad 7), .ref (ad 8), .ref (ad 9), .ref (ad 10), .ref (ad 11), .ref (ad 12), .int wd])), (ad 1, .inl (cA 1, 2400, .inl dk)), (ad 2, .inl (cA 2, 61, .inl mn)), (ad 3, .inl (cA 3, 2440, .inr (.inl cs))), (ad 4, .inl (cA 4, 2440, .inl nx)), (ad 5, .inl (cA 5, 2440, .inl gs)), (ad 6, .inl (cA 6, 40, .inr (.inl pr))), (ad 7, .inl (cA 7, 40, .inl ln)), (ad 8, .inl (cA 8, 2480, .inl wy)), (ad 9, .inl (cA 9, 61, .inr (.inl ct))), (ad 10, .inl (cA 10, 61, .inr (.inl bf))), (ad 11, .inl (cA 11, 3721, .inr (.inl sg))), (ad 12, .inl (cA 12, 61, .inl my))]
abbrev tX1 (cA : Nat → ClassId) : List (ClassId × FieldType) := [(cA 1, .boolean), (cA 2, .int), (cA 3, .long), (cA 4, .int), (cA 5, .int), (cA 6, .long), (cA 7, .int), (cA 8, .int), (cA 9, .long), (cA 10, .long), (cA 11, .long), (cA 12, .boolean)]
def wJ13_bitCount_95d88 (a0 : Int64) (Post : Int32 → Prop) : Prop :=
  ∀ x0_1 : Int64, x0_1 = (a0 - ((zUshr a0 1) &&& 6148914691236517205)) → ∀ x0_2 : Int64, x0_2 = ((x0_1 &&& 3689348814741910323) + ((zUshr x0_1 2) &&& 3689348814741910323)) → ∀ x0_3 : Int64, x0_3 = ((x0_2 + (zUshr x0_2 4)) &&& 1085102592571150095) → ∀ x0_4 : Int64, x0_4 = (x0_3 + (zUshr x0_3 8)) → ∀ x0_5 : Int64, x0_5 = (x0_4 + (zUshr x0_4 16)) → ∀ x0_6 : Int64, x0_6 = (x0_5 + (zUshr x0_5 32)) → Post ((Int64.toInt32 x0_6) &&& 127)
def wJ9_floorDiv_7cf53 (a0 : Int32) (a1 : Int32) (Post : Int32 → Prop) : Prop :=
  (¬ a1 = 0) ∧ (∀ x2_1 : Int32, x2_1 = (a0 / a1) → ((0 ≤ (a0 ^^^ a1) → Post x2_1) ∧ (¬ 0 ≤ (a0 ^^^ a1) → (((x2_1 * a1) = a0 → Post x2_1) ∧ (¬ (x2_1 * a1) = a0 → Post (x2_1 - 1))))))
def wX0_has (a0 : Int64) (a2 : Int32) (Post : Int32 → Prop) : Prop :=
  (((lg_cmp ((zUshr a0 a2) &&& 1) 0) = 0 → Post 0) ∧ (¬ (lg_cmp ((zUshr a0 a2) &&& 1) 0) = 0 → Post 1))
def wX0_shelf (a0 : Int32) (Post : Int32 → Prop) : Prop :=
  Post (a0 * 40)
def jX0_signCost_18 (a0 : Int32) (a1 : Int32) (a2 : Int32) (a3 : Int32) (Post : Int32 → Prop) (x4 : Int32) (s0 : Int32) : Prop :=
  Post (((x4 * x4) + (5 * a1)) + s0)
def wX0_signCost (a0 : Int32) (a1 : Int32) (a2 : Int32) (a3 : Int32) (Post : Int32 → Prop) : Prop :=
  ∀ x4_1 : Int32, x4_1 = (a0 - a3) → ((a2 = 0 → jX0_signCost_18 a0 a1 a2 a3 Post x4_1 0) ∧ (¬ a2 = 0 → jX0_signCost_18 a0 a1 a2 a3 Post x4_1 (2 * (a2 - 1))))
def bX0_firstDarkColumn_2 (nW : Nat) (cols : Nat → Int64) (Post : Int32 → Prop) (r2 : Int32 → Prop) (x1 : Int32) : Prop :=
  (((nI nW) ≤ x1 → Post (-1)) ∧ (¬ (nI nW) ≤ x1 → pIn x1 nW (fun j_1 => (((lg_cmp (cols j_1) 0) = 0 → r2 (x1 + 1)) ∧ (¬ (lg_cmp (cols j_1) 0) = 0 → Post x1)))))
def lX0_firstDarkColumn_2 (nW : Nat) (cols : Nat → Int64) (Post : Int32 → Prop) : Nat → Int32 → Prop
  | 0, _ => False
  | n + 1, x1 => bX0_firstDarkColumn_2 nW cols Post (lX0_firstDarkColumn_2 nW cols Post n) x1
def wX0_firstDarkColumn (nW : Nat) (cols : Nat → Int64) (Post : Int32 → Prop) : Prop :=
  ∃ n : Nat, lX0_firstDarkColumn_2 nW cols Post n 0
def bX0_lastDarkColumn_7 (nW : Nat) (cols : Nat → Int64) (Post : Int32 → Prop) (r7 : Int32 → Prop) (x1 : Int32) : Prop :=
  ((x1 < 0 → Post (-1)) ∧ (¬ x1 < 0 → pIn x1 nW (fun j_2 => (((lg_cmp (cols j_2) 0) = 0 → r7 (x1 + (-1))) ∧ (¬ (lg_cmp (cols j_2) 0) = 0 → Post x1)))))
def lX0_lastDarkColumn_7 (nW : Nat) (cols : Nat → Int64) (Post : Int32 → Prop) : Nat → Int32 → Prop
  | 0, _ => False
  | n + 1, x1 => bX0_lastDarkColumn_7 nW cols Post (lX0_lastDarkColumn_7 nW cols Post n) x1
def wX0_lastDarkColumn (nW : Nat) (cols : Nat → Int64) (Post : Int32 → Prop) : Prop :=
  ∀ x1_1 : Int32, x1_1 = ((nI nW) - 1) → ∃ n : Nat, lX0_lastDarkColumn_7 nW cols Post n x1_1
def wX0_darkInRow (nH : Nat) (rows : Nat → Int64) (a1 : Int32) (Post : Int32 → Prop) : Prop :=
  pIn a1 nH (fun j_1 => wJ13_bitCount_95d88 (rows j_1) (fun r_2 => Post r_2))
def bX0_mostDarkInARow_4 (nH : Nat) (rows : Nat → Int64) (Post : Int32 → Prop) (r4 : Int32 → Int32 → Prop) (x1 : Int32) (x2 : Int32) : Prop :=
  (((nI nH) ≤ x2 → Post x1) ∧ (¬ (nI nH) ≤ x2 → wX0_darkInRow nH rows x2 (fun r_1 => ∀ x1_2 : Int32, x1_2 = (zMax x1 r_1) → r4 x1_2 (x2 + 1))))
def lX0_mostDarkInARow_4 (nH : Nat) (rows : Nat → Int64) (Post : Int32 → Prop) : Nat → Int32 → Int32 → Prop
  | 0, _, _ => False
  | n + 1, x1, x2 => bX0_mostDarkInARow_4 nH rows Post (lX0_mostDarkInARow_4 nH rows Post n) x1 x2
def wX0_mostDarkInARow (nH : Nat) (rows : Nat → Int64) (Post : Int32 → Prop) : Prop :=
  ∃ n : Nat, lX0_mostDarkInARow_4 nH rows Post n 0 0
def bX0_firstStrongRow_7 (nH : Nat) (rows : Nat → Int64) (Post : Int32 → Prop) (r7 : Int32 → Int32 → Prop) (x1 : Int32) (x2 : Int32) : Prop :=
  (((nI nH) ≤ x2 → Post (-1)) ∧ (¬ (nI nH) ≤ x2 → wX0_darkInRow nH rows x2 (fun r_2 => (((2 * r_2) < x1 → r7 x1 (x2 + 1)) ∧ (¬ (2 * r_2) < x1 → Post x2)))))
def lX0_firstStrongRow_7 (nH : Nat) (rows : Nat → Int64) (Post : Int32 → Prop) : Nat → Int32 → Int32 → Prop
  | 0, _, _ => False
  | n + 1, x1, x2 => bX0_firstStrongRow_7 nH rows Post (lX0_firstStrongRow_7 nH rows Post n) x1 x2
def wX0_firstStrongRow (nH : Nat) (rows : Nat → Int64) (Post : Int32 → Prop) : Prop :=
  wX0_mostDarkInARow nH rows (fun r_1 => ∃ n : Nat, lX0_firstStrongRow_7 nH rows Post n r_1 0)
def bX0_lastStrongRow_12 (nH : Nat) (rows : Nat → Int64) (Post : Int32 → Prop) (r12 : Int32 → Int32 → Prop) (x1 : Int32) (x2 : Int32) : Prop :=
  ((x2 < 0 → Post (-1)) ∧ (¬ x2 < 0 → wX0_darkInRow nH rows x2 (fun r_3 => (((2 * r_3) < x1 → r12 x1 (x2 + (-1))) ∧ (¬ (2 * r_3) < x1 → Post x2)))))
def lX0_lastStrongRow_12 (nH : Nat) (rows : Nat → Int64) (Post : Int32 → Prop) : Nat → Int32 → Int32 → Prop
  | 0, _, _ => False
  | n + 1, x1, x2 => bX0_lastStrongRow_12 nH rows Post (lX0_lastStrongRow_12 nH rows Post n) x1 x2
def wX0_lastStrongRow (nH : Nat) (rows : Nat → Int64) (Post : Int32 → Prop) : Prop :=
  wX0_mostDarkInARow nH rows (fun r_1 => ∀ x2_2 : Int32, x2_2 = ((nI nH) - 1) → ∃ n : Nat, lX0_lastStrongRow_12 nH rows Post n r_1 x2_2)
def wX0_dueWidth (nH : Nat) (rows : Nat → Int64) (Post : Int32 → Prop) : Prop :=
  wX0_lastStrongRow nH rows (fun r_1 => wX0_firstStrongRow nH rows (fun r_2 => Post ((((r_1 - r_2) * 3) / 4) + 2)))
def bX0_shearedColumns_8 (nH : Nat) (rows : Nat → Int64) (a1 : Int32) (Post : Int32 → Prop) (r8 : Int64 → Int64 → Int32 → Prop) (x2 : Int64) (x4 : Int64) (x6 : Int32) : Prop :=
  (((nI nH) ≤ x6 → wJ13_bitCount_95d88 x2 (fun r_1 => wJ13_bitCount_95d88 x4 (fun r_2 => Post (r_1 + r_2)))) ∧ (¬ (nI nH) ≤ x6 → wJ9_floorDiv_7cf53 (a1 * (((nI nH) - 1) - x6)) 8 (fun r_3 => ∀ x7_4 : Int32, x7_4 = (30 + r_3) → pIn x6 nH (fun j_5 => ∀ x2_6 : Int64, x2_6 = (x2 ||| (zShl (rows j_5) x7_4)) → pIn x6 nH (fun j_7 => ∀ x4_8 : Int64, x4_8 = (x4 ||| (zUshr (zUshr (rows j_7) 1) (63 - x7_4))) → r8 x2_6 x4_8 (x6 + 1))))))
def lX0_shearedColumns_8 (nH : Nat) (rows : Nat → Int64) (a1 : Int32) (Post : Int32 → Prop) : Nat → Int64 → Int64 → Int32 → Prop
  | 0, _, _, _ => False
  | n + 1, x2, x4, x6 => bX0_shearedColumns_8 nH rows a1 Post (lX0_shearedColumns_8 nH rows a1 Post n) x2 x4 x6
def wX0_shearedColumns (nH : Nat) (rows : Nat → Int64) (a1 : Int32) (Post : Int32 → Prop) : Prop :=
  ∃ n : Nat, lX0_shearedColumns_8 nH rows a1 Post n 0 0 0
def wX0_touch (nW : Nat) (cols : Nat → Int64) (a1 : Int32) (Post : Int32 → Prop) : Prop :=
  pIn (a1 - 1) nW (fun j_1 => pIn a1 nW (fun j_2 => wJ13_bitCount_95d88 ((cols j_1) &&& (cols j_2)) (fun r_3 => Post r_3)))
def jX0_placesToCut_40 (nW : Nat) (cols : Nat → Int64) (a1 : Int32) (a2 : Int32) (Post : Int64 → Prop) (r7 : Int64 → Int32 → Prop) (x3 : Int64) (x5 : Int32) (s0 : Int32) : Prop :=
  ((s0 = 0 → r7 x3 (x5 + 1)) ∧ (¬ s0 = 0 → wX0_touch nW cols x5 (fun r_4 => ((2 < r_4 → r7 x3 (x5 + 1)) ∧ (¬ 2 < r_4 → ∀ x3_5 : Int64, x3_5 = (x3 ||| (zShl 1 x5)) → r7 x3_5 (x5 + 1))))))
def bX0_placesToCut_7 (nW : Nat) (cols : Nat → Int64) (a1 : Int32) (a2 : Int32) (Post : Int64 → Prop) (r7 : Int64 → Int32 → Prop) (x3 : Int64) (x5 : Int32) : Prop :=
  ((a2 ≤ x5 → Post x3) ∧ (¬ a2 ≤ x5 → pIn (x5 - 1) nW (fun j_2 => pIn x5 nW (fun j_3 => (((lg_cmp ((cols j_2) ||| (cols j_3)) 0) = 0 → jX0_placesToCut_40 nW cols a1 a2 Post r7 x3 x5 0) ∧ (¬ (lg_cmp ((cols j_2) ||| (cols j_3)) 0) = 0 → jX0_placesToCut_40 nW cols a1 a2 Post r7 x3 x5 1))))))
def lX0_placesToCut_7 (nW : Nat) (cols : Nat → Int64) (a1 : Int32) (a2 : Int32) (Post : Int64 → Prop) : Nat → Int64 → Int32 → Prop
  | 0, _, _ => False
  | n + 1, x3, x5 => bX0_placesToCut_7 nW cols a1 a2 Post (lX0_placesToCut_7 nW cols a1 a2 Post n) x3 x5
def wX0_placesToCut (nW : Nat) (cols : Nat → Int64) (a1 : Int32) (a2 : Int32) (Post : Int64 → Prop) : Prop :=
  ∀ x5_1 : Int32, x5_1 = (a1 + 1) → ∃ n : Nat, lX0_placesToCut_7 nW cols a1 a2 Post n 0 x5_1
def wX0_isFound (fd : Int32) (a1 : Int32) (Post : Int32 → Prop) : Prop :=
  ((a1 < 0 → Post 0) ∧ (¬ a1 < 0 → ((fd ≤ a1 → Post 0) ∧ (¬ fd ≤ a1 → Post 1))))
def bX0_way_35 (nW : Nat) (ff : Int32) (fd : Int32) (ends : Nat → Int64) (a1 : Int32) (a2 : Int32) (Post : Int32 → Prop) (r35 : Int64 → Int32 → Int32 → Prop) (x3 : Int64) (x5 : Int32) (x6 : Int32) : Prop :=
  (((nI nW) < x6 → Post (-1)) ∧ (¬ (nI nW) < x6 → wX0_has x3 x6 (fun r_5 => ((r_5 = 0 → r35 x3 x5 (x6 + 1)) ∧ (¬ r_5 = 0 → ((x5 = a2 → Post x6) ∧ (¬ x5 = a2 → r35 x3 (x5 + 1) (x6 + 1))))))))
def lX0_way_35 (nW : Nat) (ff : Int32) (fd : Int32) (ends : Nat → Int64) (a1 : Int32) (a2 : Int32) (Post : Int32 → Prop) : Nat → Int64 → Int32 → Int32 → Prop
  | 0, _, _, _ => False
  | n + 1, x3, x5, x6 => bX0_way_35 nW ff fd ends a1 a2 Post (lX0_way_35 nW ff fd ends a1 a2 Post n) x3 x5 x6
def wX0_way (nW : Nat) (ff : Int32) (fd : Int32) (ends : Nat → Int64) (a1 : Int32) (a2 : Int32) (Post : Int32 → Prop) : Prop :=
  wX0_isFound fd a1 (fun r_1 => ((r_1 = 0 → Post (-1)) ∧ (¬ r_1 = 0 → ((0 ≤ a2 → wX0_shelf ff (fun r_2 => pIn (r_2 + a1) ((nW + 1) * 40) (fun j_3 => ∀ x3_4 : Int64, x3_4 = (ends j_3) → ∃ n : Nat, lX0_way_35 nW ff fd ends a1 a2 Post n x3_4 0 0))) ∧ (¬ 0 ≤ a2 → Post (-1))))))
def wX0_cost (nW : Nat) (ff : Int32) (fd : Int32) (ecost : Nat → Int32) (a1 : Int32) (Post : Int64 → Prop) : Prop :=
  wX0_isFound fd a1 (fun r_1 => ((r_1 = 0 → Post (-1)) ∧ (¬ r_1 = 0 → wX0_shelf ff (fun r_2 => pIn (r_2 + a1) ((nW + 1) * 40) (fun j_3 => Post (Int32.toInt64 (ecost j_3)))))))
def wX0_signs (nW : Nat) (ff : Int32) (fd : Int32) (ends : Nat → Int64) (a1 : Int32) (Post : Int32 → Prop) : Prop :=
  wX0_isFound fd a1 (fun r_1 => ((r_1 = 0 → Post (-1)) ∧ (¬ r_1 = 0 → wX0_shelf ff (fun r_2 => pIn (r_2 + a1) ((nW + 1) * 40) (fun j_3 => wJ13_bitCount_95d88 (ends j_3) (fun r_4 => Post (r_4 - 1)))))))
def wX0_base (nW : Nat) (nH : Nat) (cols : Nat → Int64) (rows : Nat → Int64) (a1 : Int32) (Post : Int32 → Prop) : Prop :=
  wX0_firstDarkColumn nW cols (fun r_1 => ((r_1 = (-1) → Post (-1)) ∧ (¬ r_1 = (-1) → ((a1 = 0 → wX0_firstStrongRow nH rows (fun r_2 => Post r_2)) ∧ (a1 = 1 → wX0_lastStrongRow nH rows (fun r_3 => Post r_3)) ∧ (a1 = 2 → wX0_dueWidth nH rows (fun r_4 => Post r_4)) ∧ (a1 = 3 → wX0_firstDarkColumn nW cols (fun r_5 => Post r_5)) ∧ (a1 = 4 → wX0_lastDarkColumn nW cols (fun r_6 => Post (r_6 + 1))) ∧ (a1 = 5 → wX0_firstDarkColumn nW cols (fun r_7 => wX0_lastDarkColumn nW cols (fun r_8 => wX0_placesToCut nW cols r_7 (r_8 + 1) (fun r_9 => wJ13_bitCount_95d88 r_9 (fun r_10 => Post r_10))))) ∧ ((¬ a1 = 0 ∧ ¬ a1 = 1 ∧ ¬ a1 = 2 ∧ ¬ a1 = 3 ∧ ¬ a1 = 4 ∧ ¬ a1 = 5) → Post (-1))))))
def jX0_slant_36 (nH : Nat) (rows : Nat → Int64) (Post : Int32 → Prop) (r10 : Int32 → Int32 → Int32 → Prop) (x1 : Int32) (x2 : Int32) (x3 : Int32) : Prop :=
  wX0_shearedColumns nH rows x3 (fun r_3 => ((x2 ≤ r_3 → r10 x1 x2 (x3 + 1)) ∧ (¬ x2 ≤ r_3 → r10 x3 r_3 (x3 + 1))))
def bX0_slant_10 (nH : Nat) (rows : Nat → Int64) (Post : Int32 → Prop) (r10 : Int32 → Int32 → Int32 → Prop) (x1 : Int32) (x2 : Int32) (x3 : Int32) : Prop :=
  ((6 < x3 → Post x1) ∧ (¬ 6 < x3 → wX0_shearedColumns nH rows (-x3) (fun r_2 => ((x2 ≤ r_2 → jX0_slant_36 nH rows Post r10 x1 x2 x3) ∧ (¬ x2 ≤ r_2 → ∀ x1_4 : Int32, x1_4 = (-x3) → jX0_slant_36 nH rows Post r10 x1_4 r_2 x3)))))
def lX0_slant_10 (nH : Nat) (rows : Nat → Int64) (Post : Int32 → Prop) : Nat → Int32 → Int32 → Int32 → Prop
  | 0, _, _, _ => False
  | n + 1, x1, x2, x3 => bX0_slant_10 nH rows Post (lX0_slant_10 nH rows Post n) x1 x2 x3
def wX0_slant (nH : Nat) (rows : Nat → Int64) (Post : Int32 → Prop) : Prop :=
  wX0_shearedColumns nH rows 0 (fun r_1 => ∃ n : Nat, lX0_slant_10 nH rows Post n 0 r_1 1)
def jX0_lengthenTails_61 (nW : Nat) (cols : Nat → Int64) (a1 : Int32) (a2 : Int32) (a3 : Int64) (Post : (Nat → Int32) → (Nat → Int32) → Prop) (r17 : Int32 → Int32 → (Nat → Int32) → (Nat → Int32) → Prop) (x5 : Int32) (x6 : Int32) (s0 : Int32) (tails : Nat → Int32) (longer : Nat → Int32) : Prop :=
  pIn (x6 + 1) (nW + 1) (fun j_9 => pIn x6 (nW + 1) (fun j_10 => r17 x5 (x6 + (-1)) tails (upd longer j_10 (zMin 1000000000 ((longer j_9) + s0)))))
def jX0_lengthenTails_39 (nW : Nat) (cols : Nat → Int64) (a1 : Int32) (a2 : Int32) (a3 : Int64) (Post : (Nat → Int32) → (Nat → Int32) → Prop) (r17 : Int32 → Int32 → (Nat → Int32) → (Nat → Int32) → Prop) (x5 : Int32) (x6 : Int32) (tails : Nat → Int32) (longer : Nat → Int32) : Prop :=
  wX0_has a3 x6 (fun r_8 => ((r_8 = 0 → jX0_lengthenTails_61 nW cols a1 a2 a3 Post r17 x5 x6 0 tails longer) ∧ (¬ r_8 = 0 → pIn (x5 + 1) (nW + 1) (fun j_11 => jX0_lengthenTails_61 nW cols a1 a2 a3 Post r17 x5 x6 (tails j_11) tails longer))))
def bX0_lengthenTails_17 (nW : Nat) (cols : Nat → Int64) (a1 : Int32) (a2 : Int32) (a3 : Int64) (Post : (Nat → Int32) → (Nat → Int32) → Prop) (r17 : Int32 → Int32 → (Nat → Int32) → (Nat → Int32) → Prop) (x5 : Int32) (x6 : Int32) (tails : Nat → Int32) (longer : Nat → Int32) : Prop :=
  ((x6 ≤ a1 → pCpy (a1 + 1) (a1 + 1) (a2 - a1) (nW + 1) (nW + 1) (fun i_4 j_5 k_6 => Post (va_cpy longer tails i_4 j_5 k_6) longer)) ∧ (¬ x6 ≤ a1 → pIn x6 nW (fun j_7 => (((lg_cmp (cols j_7) 0) = 0 → jX0_lengthenTails_39 nW cols a1 a2 a3 Post r17 x5 x6 tails longer) ∧ (¬ (lg_cmp (cols j_7) 0) = 0 → jX0_lengthenTails_39 nW cols a1 a2 a3 Post r17 x6 x6 tails longer)))))
def lX0_lengthenTails_17 (nW : Nat) (cols : Nat → Int64) (a1 : Int32) (a2 : Int32) (a3 : Int64) (Post : (Nat → Int32) → (Nat → Int32) → Prop) : Nat → Int32 → Int32 → (Nat → Int32) → (Nat → Int32) → Prop
  | 0, _, _, _, _ => False
  | n + 1, x5, x6, tails, longer => bX0_lengthenTails_17 nW cols a1 a2 a3 Post (lX0_lengthenTails_17 nW cols a1 a2 a3 Post n) x5 x6 tails longer
def wX0_lengthenTails (nW : Nat) (cols : Nat → Int64) (tails : Nat → Int32) (longer : Nat → Int32) (a1 : Int32) (a2 : Int32) (a3 : Int64) (Post : (Nat → Int32) → (Nat → Int32) → Prop) : Prop :=
  ∀ x5_1 : Int32, x5_1 = (a2 - 1) → pIn a2 (nW + 1) (fun j_2 => ∀ x6_3 : Int32, x6_3 = (a2 - 1) → ∃ n : Nat, lX0_lengthenTails_17 nW cols a1 a2 a3 Post n x5_1 x6_3 tails (upd longer j_2 0))
def bX0_plain_66 (nW : Nat) (cols : Nat → Int64) (a1 : Int32) (Post : Int32 → (Nat → Int32) → (Nat → Int32) → Prop) (r66 : Int32 → Int32 → Int64 → Int32 → (Nat → Int32) → (Nat → Int32) → Prop) (x2 : Int32) (x3 : Int32) (x4 : Int64) (x6 : Int32) (tails : Nat → Int32) (longer : Nat → Int32) : Prop :=
  ((a1 ≤ x6 → pIn (x2 + 1) (nW + 1) (fun j_5 => Post (tails j_5) tails longer)) ∧ (¬ a1 ≤ x6 → wX0_lengthenTails nW cols tails longer x2 x3 x4 (fun tails_8 longer_9 => r66 x2 x3 x4 (x6 + 1) tails_8 longer_9)))
def lX0_plain_66 (nW : Nat) (cols : Nat → Int64) (a1 : Int32) (Post : Int32 → (Nat → Int32) → (Nat → Int32) → Prop) : Nat → Int32 → Int32 → Int64 → Int32 → (Nat → Int32) → (Nat → Int32) → Prop
  | 0, _, _, _, _, _, _ => False
  | n + 1, x2, x3, x4, x6, tails, longer => bX0_plain_66 nW cols a1 Post (lX0_plain_66 nW cols a1 Post n) x2 x3 x4 x6 tails longer
def bX0_plain_43 (nW : Nat) (cols : Nat → Int64) (a1 : Int32) (Post : Int32 → (Nat → Int32) → (Nat → Int32) → Prop) (r43 : Int32 → Int32 → Int64 → Int32 → (Nat → Int32) → (Nat → Int32) → Prop) (x2 : Int32) (x3 : Int32) (x4 : Int64) (x6 : Int32) (tails : Nat → Int32) (longer : Nat → Int32) : Prop :=
  ((x3 < x6 → ∃ n : Nat, lX0_plain_66 nW cols a1 Post n x2 x3 x4 1 tails longer) ∧ (¬ x3 < x6 → pIn x6 (nW + 1) (fun j_11 => r43 x2 x3 x4 (x6 + 1) (upd tails j_11 1) longer)))
def lX0_plain_43 (nW : Nat) (cols : Nat → Int64) (a1 : Int32) (Post : Int32 → (Nat → Int32) → (Nat → Int32) → Prop) : Nat → Int32 → Int32 → Int64 → Int32 → (Nat → Int32) → (Nat → Int32) → Prop
  | 0, _, _, _, _, _, _ => False
  | n + 1, x2, x3, x4, x6, tails, longer => bX0_plain_43 nW cols a1 Post (lX0_plain_43 nW cols a1 Post n) x2 x3 x4 x6 tails longer
def wX0_plain (nW : Nat) (cols : Nat → Int64) (tails : Nat → Int32) (longer : Nat → Int32) (a1 : Int32) (Post : Int32 → (Nat → Int32) → (Nat → Int32) → Prop) : Prop :=
  wX0_firstDarkColumn nW cols (fun r_1 => ((r_1 = (-1) → Post 0 tails longer) ∧ (¬ r_1 = (-1) → ((a1 < 1 → Post 0 tails longer) ∧ (¬ a1 < 1 → ((a1 ≤ (nI nW) → wX0_lastDarkColumn nW cols (fun r_2 => ∀ x3_3 : Int32, x3_3 = (r_2 + 1) → wX0_placesToCut nW cols r_1 x3_3 (fun r_4 => ∃ n : Nat, lX0_plain_43 nW cols a1 Post n r_1 x3_3 r_4 0 tails longer))) ∧ (¬ a1 ≤ (nI nW) → Post 0 tails longer)))))))
def wX0_shelveUntil (nW : Nat) (ends : Nat → Int64) (ecost : Nat → Int32) (ecnt : Nat → Int32) (a1 : Int32) (Post : (Nat → Int64) → (Nat → Int32) → (Nat → Int32) → Prop) : Prop :=
  wX0_shelf a1 (fun r_1 => pIn r_1 ((nW + 1) * 40) (fun j_2 => wX0_shelf a1 (fun r_3 => pIn r_3 ((nW + 1) * 40) (fun j_4 => pIn a1 (nW + 1) (fun j_5 => Post (vp_updL ends j_2 (zShl 1 a1)) (upd ecost j_4 0) (upd ecnt j_5 1))))))
def jX0_shelve_121 (nW : Nat) (a1 : Int32) (a2 : Int32) (a3 : Int64) (a5 : Int32) (Post : Int32 → (Nat → Int64) → (Nat → Int32) → (Nat → Int32) → Prop) (x6 : Int32) (x7 : Int32) (x8 : Int32) (ends : Nat → Int64) (ecost : Nat → Int32) (ecnt : Nat → Int32) : Prop :=
  pIn (x6 + x8) ((nW + 1) * 40) (fun j_5 => pIn (x6 + x8) ((nW + 1) * 40) (fun j_6 => pIn a1 (nW + 1) (fun j_7 => Post 1 (vp_updL ends j_6 a3) (upd ecost j_5 a2) (upd ecnt j_7 (zMin (x7 + 1) a5)))))
def bX0_shelve_50 (nW : Nat) (a1 : Int32) (a2 : Int32) (a3 : Int64) (a5 : Int32) (Post : Int32 → (Nat → Int64) → (Nat → Int32) → (Nat → Int32) → Prop) (r50 : Int32 → Int32 → Int32 → (Nat → Int64) → (Nat → Int32) → (Nat → Int32) → Prop) (x6 : Int32) (x7 : Int32) (x8 : Int32) (ends : Nat → Int64) (ecost : Nat → Int32) (ecnt : Nat → Int32) : Prop :=
  ((x8 ≤ 0 → jX0_shelve_121 nW a1 a2 a3 a5 Post x6 x7 x8 ends ecost ecnt) ∧ (¬ x8 ≤ 0 → pIn ((x6 + x8) - 1) ((nW + 1) * 40) (fun j_8 => (((ecost j_8) ≤ a2 → jX0_shelve_121 nW a1 a2 a3 a5 Post x6 x7 x8 ends ecost ecnt) ∧ (¬ (ecost j_8) ≤ a2 → pIn ((x6 + x8) - 1) ((nW + 1) * 40) (fun j_9 => pIn (x6 + x8) ((nW + 1) * 40) (fun j_10 => pIn ((x6 + x8) - 1) ((nW + 1) * 40) (fun j_11 => pIn (x6 + x8) ((nW + 1) * 40) (fun j_12 => r50 x6 x7 (x8 + (-1)) (vp_updL ends j_12 (ends j_11)) (upd ecost j_10 (ecost j_9)) ecnt)))))))))
def lX0_shelve_50 (nW : Nat) (a1 : Int32) (a2 : Int32) (a3 : Int64) (a5 : Int32) (Post : Int32 → (Nat → Int64) → (Nat → Int32) → (Nat → Int32) → Prop) : Nat → Int32 → Int32 → Int32 → (Nat → Int64) → (Nat → Int32) → (Nat → Int32) → Prop
  | 0, _, _, _, _, _, _ => False
  | n + 1, x6, x7, x8, ends, ecost, ecnt => bX0_shelve_50 nW a1 a2 a3 a5 Post (lX0_shelve_50 nW a1 a2 a3 a5 Post n) x6 x7 x8 ends ecost ecnt
def wX0_shelve (nW : Nat) (ends : Nat → Int64) (ecost : Nat → Int32) (ecnt : Nat → Int32) (a1 : Int32) (a2 : Int32) (a3 : Int64) (a5 : Int32) (Post : Int32 → (Nat → Int64) → (Nat → Int32) → (Nat → Int32) → Prop) : Prop :=
  wX0_shelf a1 (fun r_1 => pIn a1 (nW + 1) (fun j_2 => ∀ x7_3 : Int32, x7_3 = (ecnt j_2) → ((x7_3 < a5 → ∀ x8_4 : Int32, x8_4 = (zMin x7_3 (a5 - 1)) → ∃ n : Nat, lX0_shelve_50 nW a1 a2 a3 a5 Post n r_1 x7_3 x8_4 ends ecost ecnt) ∧ (¬ x7_3 < a5 → pIn ((r_1 + a5) - 1) ((nW + 1) * 40) (fun j_14 => ((a2 < (ecost j_14) → ∀ x8_15 : Int32, x8_15 = (zMin x7_3 (a5 - 1)) → ∃ n : Nat, lX0_shelve_50 nW a1 a2 a3 a5 Post n r_1 x7_3 x8_15 ends ecost ecnt) ∧ (¬ a2 < (ecost j_14) → Post 0 ends ecost ecnt)))))))
def bX0_goOnFrom_11 (nW : Nat) (a1 : Int32) (a2 : Int32) (a3 : Int32) (a4 : Int32) (Post : (Nat → Int64) → (Nat → Int32) → (Nat → Int32) → Prop) (r11 : Int32 → Int32 → (Nat → Int64) → (Nat → Int32) → (Nat → Int32) → Prop) (x5 : Int32) (x6 : Int32) (ends : Nat → Int64) (ecost : Nat → Int32) (ecnt : Nat → Int32) : Prop :=
  ((x5 ≤ x6 → Post ends ecost ecnt) ∧ (¬ x5 ≤ x6 → wX0_shelf a1 (fun r_3 => ∀ x7_4 : Int32, x7_4 = (r_3 + x6) → pIn x7_4 ((nW + 1) * 40) (fun j_5 => pIn x7_4 ((nW + 1) * 40) (fun j_6 => wX0_shelve nW ends ecost ecnt a2 (a3 + (ecost j_5)) ((ends j_6) ||| (zShl 1 a2)) a4 (fun r_8 ends_9 ecost_10 ecnt_11 => ((r_8 = 0 → Post ends_9 ecost_10 ecnt_11) ∧ (¬ r_8 = 0 → r11 x5 (x6 + 1) ends_9 ecost_10 ecnt_11))))))))
def lX0_goOnFrom_11 (nW : Nat) (a1 : Int32) (a2 : Int32) (a3 : Int32) (a4 : Int32) (Post : (Nat → Int64) → (Nat → Int32) → (Nat → Int32) → Prop) : Nat → Int32 → Int32 → (Nat → Int64) → (Nat → Int32) → (Nat → Int32) → Prop
  | 0, _, _, _, _, _ => False
  | n + 1, x5, x6, ends, ecost, ecnt => bX0_goOnFrom_11 nW a1 a2 a3 a4 Post (lX0_goOnFrom_11 nW a1 a2 a3 a4 Post n) x5 x6 ends ecost ecnt
def wX0_goOnFrom (nW : Nat) (ends : Nat → Int64) (ecost : Nat → Int32) (ecnt : Nat → Int32) (a1 : Int32) (a2 : Int32) (a3 : Int32) (a4 : Int32) (Post : (Nat → Int64) → (Nat → Int32) → (Nat → Int32) → Prop) : Prop :=
  pIn a1 (nW + 1) (fun j_1 => ∀ x5_2 : Int32, x5_2 = (ecnt j_1) → ∃ n : Nat, lX0_goOnFrom_11 nW a1 a2 a3 a4 Post n x5_2 0 ends ecost ecnt)
def jX0_shelveEndsAt_103 (nW : Nat) (cols : Nat → Int64) (a1 : Int32) (a2 : Int32) (a3 : Int64) (a5 : Int32) (a6 : Int32) (Post : (Nat → Int64) → (Nat → Int32) → (Nat → Int32) → Prop) (r28 : Int32 → Int32 → Int32 → Int64 → Int64 → Int64 → Int32 → (Nat → Int64) → (Nat → Int32) → (Nat → Int32) → Prop) (x7 : Int32) (x8 : Int32) (x9 : Int32) (x10 : Int64) (x12 : Int64) (x14 : Int64) (x16 : Int32) (ends : Nat → Int64) (ecost : Nat → Int32) (ecnt : Nat → Int32) : Prop :=
  ∀ x19_7 : Int32, x19_7 = (x16 + 1) → (((lg_cmp x10 0) = 0 → r28 x7 x8 x9 x10 x12 x14 (x16 + 1) ends ecost ecnt) ∧ (¬ (lg_cmp x10 0) = 0 → wX0_has a3 x19_7 (fun r_8 => ((r_8 = 0 → r28 x7 x8 x9 x10 x12 x14 (x16 + 1) ends ecost ecnt) ∧ (¬ r_8 = 0 → ∀ x20_9 : Int32, x20_9 = ((x8 - x7) + 1) → wJ13_bitCount_95d88 x14 (fun r_10 => wX0_signCost x20_9 (x20_9 - x9) r_10 a5 (fun r_11 => ((a2 ≤ x19_7 → wX0_goOnFrom nW ends ecost ecnt x19_7 a1 (r_11 + 0) a6 (fun ends_14 ecost_15 ecnt_16 => r28 x7 x8 x9 x10 x12 x14 (x16 + 1) ends_14 ecost_15 ecnt_16)) ∧ (¬ a2 ≤ x19_7 → wX0_touch nW cols x19_7 (fun r_17 => wX0_goOnFrom nW ends ecost ecnt x19_7 a1 (r_11 + (10 * r_17)) a6 (fun ends_20 ecost_21 ecnt_22 => r28 x7 x8 x9 x10 x12 x14 (x16 + 1) ends_20 ecost_21 ecnt_22)))))))))))
def jX0_shelveEndsAt_94 (nW : Nat) (cols : Nat → Int64) (a1 : Int32) (a2 : Int32) (a3 : Int64) (a5 : Int32) (a6 : Int32) (Post : (Nat → Int64) → (Nat → Int32) → (Nat → Int32) → Prop) (r28 : Int32 → Int32 → Int32 → Int64 → Int64 → Int64 → Int32 → (Nat → Int64) → (Nat → Int32) → (Nat → Int32) → Prop) (x9 : Int32) (x10 : Int64) (x12 : Int64) (x14 : Int64) (x16 : Int32) (s0 : Int32) (ends : Nat → Int64) (ecost : Nat → Int32) (ecnt : Nat → Int32) : Prop :=
  jX0_shelveEndsAt_103 nW cols a1 a2 a3 a5 a6 Post r28 s0 x16 (x9 + 1) x10 x12 x14 x16 ends ecost ecnt
def bX0_shelveEndsAt_28 (nW : Nat) (cols : Nat → Int64) (a1 : Int32) (a2 : Int32) (a3 : Int64) (a5 : Int32) (a6 : Int32) (Post : (Nat → Int64) → (Nat → Int32) → (Nat → Int32) → Prop) (r28 : Int32 → Int32 → Int32 → Int64 → Int64 → Int64 → Int32 → (Nat → Int64) → (Nat → Int32) → (Nat → Int32) → Prop) (x7 : Int32) (x8 : Int32) (x9 : Int32) (x10 : Int64) (x12 : Int64) (x14 : Int64) (x16 : Int32) (ends : Nat → Int64) (ecost : Nat → Int32) (ecnt : Nat → Int32) : Prop :=
  ((a2 ≤ x16 → Post ends ecost ecnt) ∧ (¬ a2 ≤ x16 → pIn x16 nW (fun j_2 => ∀ x17_3 : Int64, x17_3 = (cols j_2) → ∀ x14_4 : Int64, x14_4 = (x14 ||| (x12 &&& x17_3)) → ∀ x12_5 : Int64, x12_5 = (x12 ||| (x10 &&& (x17_3 ^^^ (-1)))) → ∀ x10_6 : Int64, x10_6 = (x10 ||| x17_3) → (((lg_cmp x17_3 0) = 0 → jX0_shelveEndsAt_103 nW cols a1 a2 a3 a5 a6 Post r28 x7 x8 x9 x10_6 x12_5 x14_4 x16 ends ecost ecnt) ∧ (¬ (lg_cmp x17_3 0) = 0 → ((x7 = (-1) → jX0_shelveEndsAt_94 nW cols a1 a2 a3 a5 a6 Post r28 x9 x10_6 x12_5 x14_4 x16 x16 ends ecost ecnt) ∧ (¬ x7 = (-1) → jX0_shelveEndsAt_94 nW cols a1 a2 a3 a5 a6 Post r28 x9 x10_6 x12_5 x14_4 x16 x7 ends ecost ecnt)))))))
def lX0_shelveEndsAt_28 (nW : Nat) (cols : Nat → Int64) (a1 : Int32) (a2 : Int32) (a3 : Int64) (a5 : Int32) (a6 : Int32) (Post : (Nat → Int64) → (Nat → Int32) → (Nat → Int32) → Prop) : Nat → Int32 → Int32 → Int32 → Int64 → Int64 → Int64 → Int32 → (Nat → Int64) → (Nat → Int32) → (Nat → Int32) → Prop
  | 0, _, _, _, _, _, _, _, _, _, _ => False
  | n + 1, x7, x8, x9, x10, x12, x14, x16, ends, ecost, ecnt => bX0_shelveEndsAt_28 nW cols a1 a2 a3 a5 a6 Post (lX0_shelveEndsAt_28 nW cols a1 a2 a3 a5 a6 Post n) x7 x8 x9 x10 x12 x14 x16 ends ecost ecnt
def wX0_shelveEndsAt (nW : Nat) (cols : Nat → Int64) (ends : Nat → Int64) (ecost : Nat → Int32) (ecnt : Nat → Int32) (a1 : Int32) (a2 : Int32) (a3 : Int64) (a5 : Int32) (a6 : Int32) (Post : (Nat → Int64) → (Nat → Int32) → (Nat → Int32) → Prop) : Prop :=
  pIn a1 (nW + 1) (fun j_1 => ∃ n : Nat, lX0_shelveEndsAt_28 nW cols a1 a2 a3 a5 a6 Post n (-1) (-1) 0 0 0 0 a1 ends ecost (upd ecnt j_1 0))
def bX0_shelveEnds_27 (nW : Nat) (nH : Nat) (cols : Nat → Int64) (rows : Nat → Int64) (a1 : Int32) (a2 : Int32) (a3 : Int32) (Post : (Nat → Int64) → (Nat → Int32) → (Nat → Int32) → Prop) (r27 : Int32 → Int64 → Int64 → Int32 → (Nat → Int64) → (Nat → Int32) → (Nat → Int32) → Prop) (x4 : Int32) (x5 : Int64) (x7 : Int64) (x9 : Int32) (ends : Nat → Int64) (ecost : Nat → Int32) (ecnt : Nat → Int32) : Prop :=
  ((x9 ≤ a1 → wX0_shelveEndsAt nW cols ends ecost ecnt a1 a2 x7 x4 a3 (fun ends_7 ecost_8 ecnt_9 => Post ends_7 ecost_8 ecnt_9)) ∧ (¬ x9 ≤ a1 → wX0_has x5 x9 (fun r_10 => ((r_10 = 0 → r27 x4 x5 x7 (x9 + (-1)) ends ecost ecnt) ∧ (¬ r_10 = 0 → wX0_shelveEndsAt nW cols ends ecost ecnt x9 a2 x7 x4 a3 (fun ends_13 ecost_14 ecnt_15 => r27 x4 x5 x7 (x9 + (-1)) ends_13 ecost_14 ecnt_15))))))
def lX0_shelveEnds_27 (nW : Nat) (nH : Nat) (cols : Nat → Int64) (rows : Nat → Int64) (a1 : Int32) (a2 : Int32) (a3 : Int32) (Post : (Nat → Int64) → (Nat → Int32) → (Nat → Int32) → Prop) : Nat → Int32 → Int64 → Int64 → Int32 → (Nat → Int64) → (Nat → Int32) → (Nat → Int32) → Prop
  | 0, _, _, _, _, _, _, _ => False
  | n + 1, x4, x5, x7, x9, ends, ecost, ecnt => bX0_shelveEnds_27 nW nH cols rows a1 a2 a3 Post (lX0_shelveEnds_27 nW nH cols rows a1 a2 a3 Post n) x4 x5 x7 x9 ends ecost ecnt
def wX0_shelveEnds (nW : Nat) (nH : Nat) (cols : Nat → Int64) (rows : Nat → Int64) (ends : Nat → Int64) (ecost : Nat → Int32) (ecnt : Nat → Int32) (a1 : Int32) (a2 : Int32) (a3 : Int32) (Post : (Nat → Int64) → (Nat → Int32) → (Nat → Int32) → Prop) : Prop :=
  wX0_dueWidth nH rows (fun r_1 => wX0_placesToCut nW cols a1 a2 (fun r_2 => ∀ x7_3 : Int64, x7_3 = (r_2 ||| (zShl 1 a2)) → ∀ x9_4 : Int32, x9_4 = (a2 - 1) → ∃ n : Nat, lX0_shelveEnds_27 nW nH cols rows a1 a2 a3 Post n r_1 r_2 x7_3 x9_4 ends ecost ecnt))
def wX0_cut (nW : Nat) (nH : Nat) (cols : Nat → Int64) (rows : Nat → Int64) (ff : Int32) (fd : Int32) (ends : Nat → Int64) (ecost : Nat → Int32) (ecnt : Nat → Int32) (a1 : Int32) (Post : Int32 → (Int32) → (Int32) → (Nat → Int64) → (Nat → Int32) → (Nat → Int32) → Prop) : Prop :=
  ((a1 < 1 → Post (-1) ff fd ends ecost ecnt) ∧ (¬ a1 < 1 → ((a1 ≤ 40 → wX0_firstDarkColumn nW cols (fun r_1 => ((r_1 = (-1) → Post 0 ff 0 ends ecost ecnt) ∧ (¬ r_1 = (-1) → wX0_lastDarkColumn nW cols (fun r_2 => ∀ x3_3 : Int32, x3_3 = (r_2 + 1) → wX0_shelveUntil nW ends ecost ecnt x3_3 (fun ends_6 ecost_7 ecnt_8 => wX0_shelveEnds nW nH cols rows ends_6 ecost_7 ecnt_8 r_1 x3_3 a1 (fun ends_11 ecost_12 ecnt_13 => pIn r_1 (nW + 1) (fun j_14 => ∀ v_15 : Int32, v_15 = (ecnt_13 j_14) → Post v_15 r_1 v_15 ends_11 ecost_12 ecnt_13)))))))) ∧ (¬ a1 ≤ 40 → Post (-1) ff fd ends ecost ecnt))))
def wX1_thrown (th : Int32) (Post : Int32 → Prop) : Prop :=
  Post th
def jX1_column_30 (nW : Nat) (nH : Nat) (a1 : Int32) (a2 : Int32) (a3 : Int32) (Post : (Int32) → (Nat → Int32) → Prop) (s0 : Int32) (th : Int32) (dk : Nat → Int32) : Prop :=
  ((s0 = 0 → pIn ((60 * a2) + a1) 2400 (fun j_1 => Post s0 (upd dk j_1 (vp_nar .boolean a3)))) ∧ (¬ s0 = 0 → Post s0 dk))
def jX1_column_25 (nW : Nat) (nH : Nat) (a1 : Int32) (a2 : Int32) (a3 : Int32) (Post : (Int32) → (Nat → Int32) → Prop) (th : Int32) (dk : Nat → Int32) : Prop :=
  jX1_column_30 nW nH a1 a2 a3 Post 1 th dk
def wX1_column (nW : Nat) (nH : Nat) (th : Int32) (dk : Nat → Int32) (a1 : Int32) (a2 : Int32) (a3 : Int32) (Post : (Int32) → (Nat → Int32) → Prop) : Prop :=
  ((a1 < 0 → jX1_column_25 nW nH a1 a2 a3 Post th dk) ∧ (¬ a1 < 0 → (((nI nW) ≤ a1 → jX1_column_25 nW nH a1 a2 a3 Post th dk) ∧ (¬ (nI nW) ≤ a1 → ((a2 < 0 → jX1_column_25 nW nH a1 a2 a3 Post th dk) ∧ (¬ a2 < 0 → ((a2 < (nI nH) → jX1_column_30 nW nH a1 a2 a3 Post 0 th dk) ∧ (¬ a2 < (nI nH) → jX1_column_25 nW nH a1 a2 a3 Post th dk))))))))
def wX1_isDark (dk : Nat → Int32) (a1 : Int32) (a2 : Int32) (Post : Int32 → Prop) : Prop :=
  pIn ((60 * a2) + a1) 2400 (fun j_1 => (pZ (dk j_1) ∧ Post (dk j_1)))
def bX1_hasDark_4 (nW : Nat) (nH : Nat) (dk : Nat → Int32) (a1 : Int32) (Post : Int32 → Prop) (r4 : Int32 → Int32 → Prop) (x2 : Int32) (x3 : Int32) : Prop :=
  (((nI nH) ≤ x3 → (pZ x2 ∧ Post x2)) ∧ (¬ (nI nH) ≤ x3 → ((a1 < 0 → (pZ x2 ∧ Post x2)) ∧ (¬ a1 < 0 → (((nI nW) ≤ a1 → (pZ x2 ∧ Post x2)) ∧ (¬ (nI nW) ≤ a1 → ((x2 = 0 → wX1_isDark dk a1 x3 (fun r_1 => ((r_1 = 0 → r4 0 (x3 + 1)) ∧ (¬ r_1 = 0 → r4 1 (x3 + 1))))) ∧ (¬ x2 = 0 → r4 1 (x3 + 1)))))))))
def lX1_hasDark_4 (nW : Nat) (nH : Nat) (dk : Nat → Int32) (a1 : Int32) (Post : Int32 → Prop) : Nat → Int32 → Int32 → Prop
  | 0, _, _ => False
  | n + 1, x2, x3 => bX1_hasDark_4 nW nH dk a1 Post (lX1_hasDark_4 nW nH dk a1 Post n) x2 x3
def wX1_hasDark (nW : Nat) (nH : Nat) (dk : Nat → Int32) (a1 : Int32) (Post : Int32 → Prop) : Prop :=
  ∃ n : Nat, lX1_hasDark_4 nW nH dk a1 Post n 0 0
def bX1_inRow_4 (nW : Nat) (dk : Nat → Int32) (a1 : Int32) (Post : Int32 → Prop) (r4 : Int32 → Int32 → Prop) (x2 : Int32) (x3 : Int32) : Prop :=
  (((nI nW) ≤ x3 → Post x2) ∧ (¬ (nI nW) ≤ x3 → wX1_isDark dk x3 a1 (fun r_1 => ((r_1 = 0 → r4 x2 (x3 + 1)) ∧ (¬ r_1 = 0 → ∀ x2_2 : Int32, x2_2 = (x2 + 1) → r4 x2_2 (x3 + 1))))))
def lX1_inRow_4 (nW : Nat) (dk : Nat → Int32) (a1 : Int32) (Post : Int32 → Prop) : Nat → Int32 → Int32 → Prop
  | 0, _, _ => False
  | n + 1, x2, x3 => bX1_inRow_4 nW dk a1 Post (lX1_inRow_4 nW dk a1 Post n) x2 x3
def wX1_inRow (nW : Nat) (dk : Nat → Int32) (a1 : Int32) (Post : Int32 → Prop) : Prop :=
  ∃ n : Nat, lX1_inRow_4 nW dk a1 Post n 0 0
def bX1_mostInRow_4 (nW : Nat) (nH : Nat) (dk : Nat → Int32) (Post : Int32 → Prop) (r4 : Int32 → Int32 → Prop) (x1 : Int32) (x2 : Int32) : Prop :=
  (((nI nH) ≤ x2 → Post x1) ∧ (¬ (nI nH) ≤ x2 → wX1_inRow nW dk x2 (fun r_1 => ((r_1 ≤ x1 → r4 x1 (x2 + 1)) ∧ (¬ r_1 ≤ x1 → wX1_inRow nW dk x2 (fun r_2 => r4 r_2 (x2 + 1)))))))
def lX1_mostInRow_4 (nW : Nat) (nH : Nat) (dk : Nat → Int32) (Post : Int32 → Prop) : Nat → Int32 → Int32 → Prop
  | 0, _, _ => False
  | n + 1, x1, x2 => bX1_mostInRow_4 nW nH dk Post (lX1_mostInRow_4 nW nH dk Post n) x1 x2
def wX1_mostInRow (nW : Nat) (nH : Nat) (dk : Nat → Int32) (Post : Int32 → Prop) : Prop :=
  ∃ n : Nat, lX1_mostInRow_4 nW nH dk Post n 0 0
def bX1_middle_7 (nW : Nat) (nH : Nat) (dk : Nat → Int32) (Post : Int32 → Prop) (r7 : Int32 → Int32 → Prop) (x1 : Int32) (x2 : Int32) : Prop :=
  wX1_inRow nW dk x2 (fun r_2 => ((x1 ≤ (2 * r_2) → Post x2) ∧ (¬ x1 ≤ (2 * r_2) → r7 x1 (x2 + 1))))
def lX1_middle_7 (nW : Nat) (nH : Nat) (dk : Nat → Int32) (Post : Int32 → Prop) : Nat → Int32 → Int32 → Prop
  | 0, _, _ => False
  | n + 1, x1, x2 => bX1_middle_7 nW nH dk Post (lX1_middle_7 nW nH dk Post n) x1 x2
def wX1_middle (nW : Nat) (nH : Nat) (dk : Nat → Int32) (Post : Int32 → Prop) : Prop :=
  wX1_mostInRow nW nH dk (fun r_1 => ∃ n : Nat, lX1_middle_7 nW nH dk Post n r_1 0)
def bX1_baseline_12 (nW : Nat) (nH : Nat) (dk : Nat → Int32) (Post : Int32 → Prop) (r12 : Int32 → Int32 → Prop) (x1 : Int32) (x2 : Int32) : Prop :=
  wX1_inRow nW dk x2 (fun r_3 => ((x1 ≤ (2 * r_3) → Post x2) ∧ (¬ x1 ≤ (2 * r_3) → r12 x1 (x2 + (-1)))))
def lX1_baseline_12 (nW : Nat) (nH : Nat) (dk : Nat → Int32) (Post : Int32 → Prop) : Nat → Int32 → Int32 → Prop
  | 0, _, _ => False
  | n + 1, x1, x2 => bX1_baseline_12 nW nH dk Post (lX1_baseline_12 nW nH dk Post n) x1 x2
def wX1_baseline (nW : Nat) (nH : Nat) (dk : Nat → Int32) (Post : Int32 → Prop) : Prop :=
  wX1_mostInRow nW nH dk (fun r_1 => ∀ x2_2 : Int32, x2_2 = ((nI nH) - 1) → ∃ n : Nat, lX1_baseline_12 nW nH dk Post n r_1 x2_2)
def bX1_from_2 (nW : Nat) (nH : Nat) (dk : Nat → Int32) (Post : Int32 → Prop) (r2 : Int32 → Prop) (x1 : Int32) : Prop :=
  wX1_hasDark nW nH dk x1 (fun r_1 => ((r_1 = 0 → r2 (x1 + 1)) ∧ (¬ r_1 = 0 → Post x1)))
def lX1_from_2 (nW : Nat) (nH : Nat) (dk : Nat → Int32) (Post : Int32 → Prop) : Nat → Int32 → Prop
  | 0, _ => False
  | n + 1, x1 => bX1_from_2 nW nH dk Post (lX1_from_2 nW nH dk Post n) x1
def wX1_from (nW : Nat) (nH : Nat) (dk : Nat → Int32) (Post : Int32 → Prop) : Prop :=
  ∃ n : Nat, lX1_from_2 nW nH dk Post n 0
def bX1_until_5 (nW : Nat) (nH : Nat) (dk : Nat → Int32) (Post : Int32 → Prop) (r5 : Int32 → Prop) (x1 : Int32) : Prop :=
  wX1_hasDark nW nH dk (x1 - 1) (fun r_2 => ((r_2 = 0 → r5 (x1 + (-1))) ∧ (¬ r_2 = 0 → Post x1)))
def lX1_until_5 (nW : Nat) (nH : Nat) (dk : Nat → Int32) (Post : Int32 → Prop) : Nat → Int32 → Prop
  | 0, _ => False
  | n + 1, x1 => bX1_until_5 nW nH dk Post (lX1_until_5 nW nH dk Post n) x1
def wX1_until (nW : Nat) (nH : Nat) (dk : Nat → Int32) (Post : Int32 → Prop) : Prop :=
  ∀ x1_1 : Int32, x1_1 = (nI nW) → ∃ n : Nat, lX1_until_5 nW nH dk Post n x1_1
def wX1_due (nW : Nat) (nH : Nat) (dk : Nat → Int32) (Post : Int32 → Prop) : Prop :=
  wX1_baseline nW nH dk (fun r_1 => wX1_middle nW nH dk (fun r_2 => Post (((3 * (r_1 - r_2)) / 4) + 2)))
def bX1_touch_4 (nH : Nat) (dk : Nat → Int32) (a1 : Int32) (Post : Int32 → Prop) (r4 : Int32 → Int32 → Prop) (x2 : Int32) (x3 : Int32) : Prop :=
  (((nI nH) ≤ x3 → Post x2) ∧ (¬ (nI nH) ≤ x3 → wX1_isDark dk (a1 - 1) x3 (fun r_1 => ((r_1 = 0 → r4 x2 (x3 + 1)) ∧ (¬ r_1 = 0 → wX1_isDark dk a1 x3 (fun r_2 => ((r_2 = 0 → r4 x2 (x3 + 1)) ∧ (¬ r_2 = 0 → ∀ x2_3 : Int32, x2_3 = (x2 + 1) → r4 x2_3 (x3 + 1)))))))))
def lX1_touch_4 (nH : Nat) (dk : Nat → Int32) (a1 : Int32) (Post : Int32 → Prop) : Nat → Int32 → Int32 → Prop
  | 0, _, _ => False
  | n + 1, x2, x3 => bX1_touch_4 nH dk a1 Post (lX1_touch_4 nH dk a1 Post n) x2 x3
def wX1_touch (nH : Nat) (dk : Nat → Int32) (a1 : Int32) (Post : Int32 → Prop) : Prop :=
  ∃ n : Nat, lX1_touch_4 nH dk a1 Post n 0 0
def wX1_mayCut (nW : Nat) (nH : Nat) (dk : Nat → Int32) (a1 : Int32) (Post : Int32 → Prop) : Prop :=
  wX1_touch nH dk a1 (fun r_1 => ((3 ≤ r_1 → Post 0) ∧ (¬ 3 ≤ r_1 → wX1_hasDark nW nH dk (a1 - 1) (fun r_2 => ((r_2 = 0 → wX1_hasDark nW nH dk a1 (fun r_3 => ((r_3 = 0 → Post 0) ∧ (¬ r_3 = 0 → Post 1)))) ∧ (¬ r_2 = 0 → Post 1))))))
def jX1_isBroken_70 (dk : Nat → Int32) (a1 : Int32) (a2 : Int32) (a3 : Int32) (Post : Int32 → Prop) (r12 : Int32 → Int32 → Int32 → Int32 → Prop) (x4 : Int32) (x6 : Int32) (x7 : Int32) (s0 : Int32) : Prop :=
  ((x4 = 0 → wX1_isDark dk x7 a3 (fun r_1 => ((r_1 = 0 → r12 0 s0 x6 (x7 + 1)) ∧ (¬ r_1 = 0 → r12 1 s0 x6 (x7 + 1))))) ∧ (¬ x4 = 0 → r12 1 s0 x6 (x7 + 1)))
def jX1_isBroken_69 (dk : Nat → Int32) (a1 : Int32) (a2 : Int32) (a3 : Int32) (Post : Int32 → Prop) (r12 : Int32 → Int32 → Int32 → Int32 → Prop) (x4 : Int32) (x6 : Int32) (x7 : Int32) : Prop :=
  jX1_isBroken_70 dk a1 a2 a3 Post r12 x4 x6 x7 0
def jX1_isBroken_48 (dk : Nat → Int32) (a1 : Int32) (a2 : Int32) (a3 : Int32) (Post : Int32 → Prop) (r12 : Int32 → Int32 → Int32 → Int32 → Prop) (x4 : Int32) (x7 : Int32) (s0 : Int32) : Prop :=
  ((x4 = 0 → jX1_isBroken_69 dk a1 a2 a3 Post r12 x4 s0 x7) ∧ (¬ x4 = 0 → wX1_isDark dk x7 a3 (fun r_2 => ((r_2 = 0 → jX1_isBroken_70 dk a1 a2 a3 Post r12 x4 s0 x7 1) ∧ (¬ r_2 = 0 → jX1_isBroken_69 dk a1 a2 a3 Post r12 x4 s0 x7)))))
def jX1_isBroken_43 (dk : Nat → Int32) (a1 : Int32) (a2 : Int32) (a3 : Int32) (Post : Int32 → Prop) (r12 : Int32 → Int32 → Int32 → Int32 → Prop) (x4 : Int32) (x7 : Int32) : Prop :=
  jX1_isBroken_48 dk a1 a2 a3 Post r12 x4 x7 1
def jX1_isBroken_47 (dk : Nat → Int32) (a1 : Int32) (a2 : Int32) (a3 : Int32) (Post : Int32 → Prop) (r12 : Int32 → Int32 → Int32 → Int32 → Prop) (x4 : Int32) (x7 : Int32) : Prop :=
  jX1_isBroken_48 dk a1 a2 a3 Post r12 x4 x7 0
def bX1_isBroken_12 (dk : Nat → Int32) (a1 : Int32) (a2 : Int32) (a3 : Int32) (Post : Int32 → Prop) (r12 : Int32 → Int32 → Int32 → Int32 → Prop) (x4 : Int32) (x5 : Int32) (x6 : Int32) (x7 : Int32) : Prop :=
  ((a2 ≤ x7 → (pZ x6 ∧ Post x6)) ∧ (¬ a2 ≤ x7 → ((x6 = 0 → ((x4 = 0 → jX1_isBroken_47 dk a1 a2 a3 Post r12 x4 x7) ∧ (¬ x4 = 0 → ((x5 = 0 → jX1_isBroken_47 dk a1 a2 a3 Post r12 x4 x7) ∧ (¬ x5 = 0 → wX1_isDark dk x7 a3 (fun r_3 => ((r_3 = 0 → jX1_isBroken_47 dk a1 a2 a3 Post r12 x4 x7) ∧ (¬ r_3 = 0 → jX1_isBroken_43 dk a1 a2 a3 Post r12 x4 x7)))))))) ∧ (¬ x6 = 0 → jX1_isBroken_43 dk a1 a2 a3 Post r12 x4 x7))))
def lX1_isBroken_12 (dk : Nat → Int32) (a1 : Int32) (a2 : Int32) (a3 : Int32) (Post : Int32 → Prop) : Nat → Int32 → Int32 → Int32 → Int32 → Prop
  | 0, _, _, _, _ => False
  | n + 1, x4, x5, x6, x7 => bX1_isBroken_12 dk a1 a2 a3 Post (lX1_isBroken_12 dk a1 a2 a3 Post n) x4 x5 x6 x7
def wX1_isBroken (dk : Nat → Int32) (a1 : Int32) (a2 : Int32) (a3 : Int32) (Post : Int32 → Prop) : Prop :=
  ∃ n : Nat, lX1_isBroken_12 dk a1 a2 a3 Post n 0 0 0 a1
def bX1_sign_115 (nW : Nat) (nH : Nat) (wd : Int32) (dk : Nat → Int32) (a1 : Int32) (a2 : Int32) (Post : Int64 → Prop) (r115 : Int64 → Int32 → Int32 → Prop) (x6 : Int64) (x8 : Int32) (x9 : Int32) : Prop :=
  (((nI nH) ≤ x9 → ((x8 ≤ 0 → Post x6) ∧ (¬ x8 ≤ 0 → Post (x6 + (2 * (Int32.toInt64 (x8 - 1))))))) ∧ (¬ (nI nH) ≤ x9 → wX1_isBroken dk a1 a2 x9 (fun r_5 => ((r_5 = 0 → r115 x6 x8 (x9 + 1)) ∧ (¬ r_5 = 0 → ∀ x8_6 : Int32, x8_6 = (x8 + 1) → r115 x6 x8_6 (x9 + 1))))))
def lX1_sign_115 (nW : Nat) (nH : Nat) (wd : Int32) (dk : Nat → Int32) (a1 : Int32) (a2 : Int32) (Post : Int64 → Prop) : Nat → Int64 → Int32 → Int32 → Prop
  | 0, _, _, _ => False
  | n + 1, x6, x8, x9 => bX1_sign_115 nW nH wd dk a1 a2 Post (lX1_sign_115 nW nH wd dk a1 a2 Post n) x6 x8 x9
def bX1_sign_74 (nW : Nat) (nH : Nat) (wd : Int32) (dk : Nat → Int32) (a1 : Int32) (a2 : Int32) (Post : Int64 → Prop) (r74 : Int32 → Int64 → Int32 → Prop) (x4 : Int32) (x6 : Int64) (x8 : Int32) : Prop :=
  ((x4 < x8 → ∃ n : Nat, lX1_sign_115 nW nH wd dk a1 a2 Post n x6 0 0) ∧ (¬ x4 < x8 → wX1_hasDark nW nH dk x8 (fun r_8 => ((r_8 = 0 → ∀ x6_9 : Int64, x6_9 = (x6 + 5) → r74 x4 x6_9 (x8 + 1)) ∧ (¬ r_8 = 0 → r74 x4 x6 (x8 + 1))))))
def lX1_sign_74 (nW : Nat) (nH : Nat) (wd : Int32) (dk : Nat → Int32) (a1 : Int32) (a2 : Int32) (Post : Int64 → Prop) : Nat → Int32 → Int64 → Int32 → Prop
  | 0, _, _, _ => False
  | n + 1, x4, x6, x8 => bX1_sign_74 nW nH wd dk a1 a2 Post (lX1_sign_74 nW nH wd dk a1 a2 Post n) x4 x6 x8
def bX1_sign_35 (nW : Nat) (nH : Nat) (wd : Int32) (dk : Nat → Int32) (a1 : Int32) (a2 : Int32) (Post : Int64 → Prop) (r35 : Int32 → Int32 → Prop) (x3 : Int32) (x4 : Int32) : Prop :=
  wX1_hasDark nW nH dk x4 (fun r_2 => ((r_2 = 0 → r35 x3 (x4 + (-1))) ∧ (¬ r_2 = 0 → ∀ x5_3 : Int32, x5_3 = (((x4 - x3) + 1) - wd) → ∀ x6_4 : Int64, x6_4 = (Int32.toInt64 (x5_3 * x5_3)) → ∃ n : Nat, lX1_sign_74 nW nH wd dk a1 a2 Post n x4 x6_4 x3)))
def lX1_sign_35 (nW : Nat) (nH : Nat) (wd : Int32) (dk : Nat → Int32) (a1 : Int32) (a2 : Int32) (Post : Int64 → Prop) : Nat → Int32 → Int32 → Prop
  | 0, _, _ => False
  | n + 1, x3, x4 => bX1_sign_35 nW nH wd dk a1 a2 Post (lX1_sign_35 nW nH wd dk a1 a2 Post n) x3 x4
def jX1_sign_21 (nW : Nat) (nH : Nat) (wd : Int32) (dk : Nat → Int32) (a1 : Int32) (a2 : Int32) (Post : Int64 → Prop) (x3 : Int32) : Prop :=
  ((x3 = a2 → Post (-1)) ∧ (¬ x3 = a2 → ∀ x4_1 : Int32, x4_1 = (a2 - 1) → ∃ n : Nat, lX1_sign_35 nW nH wd dk a1 a2 Post n x3 x4_1))
def bX1_sign_2 (nW : Nat) (nH : Nat) (wd : Int32) (dk : Nat → Int32) (a1 : Int32) (a2 : Int32) (Post : Int64 → Prop) (r2 : Int32 → Prop) (x3 : Int32) : Prop :=
  ((a2 ≤ x3 → jX1_sign_21 nW nH wd dk a1 a2 Post x3) ∧ (¬ a2 ≤ x3 → wX1_hasDark nW nH dk x3 (fun r_12 => ((r_12 = 0 → r2 (x3 + 1)) ∧ (¬ r_12 = 0 → jX1_sign_21 nW nH wd dk a1 a2 Post x3)))))
def lX1_sign_2 (nW : Nat) (nH : Nat) (wd : Int32) (dk : Nat → Int32) (a1 : Int32) (a2 : Int32) (Post : Int64 → Prop) : Nat → Int32 → Prop
  | 0, _ => False
  | n + 1, x3 => bX1_sign_2 nW nH wd dk a1 a2 Post (lX1_sign_2 nW nH wd dk a1 a2 Post n) x3
def wX1_sign (nW : Nat) (nH : Nat) (wd : Int32) (dk : Nat → Int32) (a1 : Int32) (a2 : Int32) (Post : Int64 → Prop) : Prop :=
  ∃ n : Nat, lX1_sign_2 nW nH wd dk a1 a2 Post n a1
def bX1_keep_86 (a1 : Int32) (a2 : Int64) (a4 : Int32) (a5 : Int32) (Post : (Nat → Int32) → (Nat → Int64) → (Nat → Int32) → (Nat → Int32) → Prop) (r86 : Int32 → Int32 → (Nat → Int32) → (Nat → Int64) → (Nat → Int32) → (Nat → Int32) → Prop) (x6 : Int32) (x7 : Int32) (mn : Nat → Int32) (cs : Nat → Int64) (nx : Nat → Int32) (gs : Nat → Int32) : Prop :=
  ((x7 ≤ x6 → pIn ((40 * a1) + x6) 2440 (fun j_7 => pIn ((40 * a1) + x6) 2440 (fun j_8 => pIn ((40 * a1) + x6) 2440 (fun j_9 => Post mn (vp_updL cs j_7 a2) (upd nx j_8 a4) (upd gs j_9 a5))))) ∧ (¬ x7 ≤ x6 → pIn (((40 * a1) + x7) - 1) 2440 (fun j_10 => pIn ((40 * a1) + x7) 2440 (fun j_11 => pIn (((40 * a1) + x7) - 1) 2440 (fun j_12 => pIn ((40 * a1) + x7) 2440 (fun j_13 => pIn (((40 * a1) + x7) - 1) 2440 (fun j_14 => pIn ((40 * a1) + x7) 2440 (fun j_15 => r86 x6 (x7 + (-1)) mn (vp_updL cs j_11 (cs j_10)) (upd nx j_13 (nx j_12)) (upd gs j_15 (gs j_14))))))))))
def lX1_keep_86 (a1 : Int32) (a2 : Int64) (a4 : Int32) (a5 : Int32) (Post : (Nat → Int32) → (Nat → Int64) → (Nat → Int32) → (Nat → Int32) → Prop) : Nat → Int32 → Int32 → (Nat → Int32) → (Nat → Int64) → (Nat → Int32) → (Nat → Int32) → Prop
  | 0, _, _, _, _, _, _ => False
  | n + 1, x6, x7, mn, cs, nx, gs => bX1_keep_86 a1 a2 a4 a5 Post (lX1_keep_86 a1 a2 a4 a5 Post n) x6 x7 mn cs nx gs
def jX1_keep_75 (a1 : Int32) (a2 : Int64) (a4 : Int32) (a5 : Int32) (Post : (Nat → Int32) → (Nat → Int64) → (Nat → Int32) → (Nat → Int32) → Prop) (x6 : Int32) (s0 : Int32) (s1 : Int32) (mn : Nat → Int32) (cs : Nat → Int64) (nx : Nat → Int32) (gs : Nat → Int32) : Prop :=
  pIn s1 61 (fun j_4 => pIn a1 61 (fun j_5 => ∀ x7_6 : Int32, x7_6 = (((upd mn j_4 s0) j_5) - 1) → ∃ n : Nat, lX1_keep_86 a1 a2 a4 a5 Post n x6 x7_6 (upd mn j_4 s0) cs nx gs))
def jX1_keep_38 (a1 : Int32) (a2 : Int64) (a4 : Int32) (a5 : Int32) (Post : (Nat → Int32) → (Nat → Int64) → (Nat → Int32) → (Nat → Int32) → Prop) (x6 : Int32) (mn : Nat → Int32) (cs : Nat → Int64) (nx : Nat → Int32) (gs : Nat → Int32) : Prop :=
  ((x6 = 40 → Post mn cs nx gs) ∧ (¬ x6 = 40 → pIn a1 61 (fun j_3 => ((40 ≤ (mn j_3) → jX1_keep_75 a1 a2 a4 a5 Post x6 40 a1 mn cs nx gs) ∧ (¬ 40 ≤ (mn j_3) → pIn a1 61 (fun j_17 => jX1_keep_75 a1 a2 a4 a5 Post x6 ((mn j_17) + 1) a1 mn cs nx gs))))))
def bX1_keep_8 (a1 : Int32) (a2 : Int64) (a4 : Int32) (a5 : Int32) (Post : (Nat → Int32) → (Nat → Int64) → (Nat → Int32) → (Nat → Int32) → Prop) (r8 : Int32 → (Nat → Int32) → (Nat → Int64) → (Nat → Int32) → (Nat → Int32) → Prop) (x6 : Int32) (mn : Nat → Int32) (cs : Nat → Int64) (nx : Nat → Int32) (gs : Nat → Int32) : Prop :=
  ((x6 ≤ 0 → jX1_keep_38 a1 a2 a4 a5 Post x6 mn cs nx gs) ∧ (¬ x6 ≤ 0 → pIn (((40 * a1) + x6) - 1) 2440 (fun j_18 => (((lg_cmp (cs j_18) a2) ≤ 0 → jX1_keep_38 a1 a2 a4 a5 Post x6 mn cs nx gs) ∧ (¬ (lg_cmp (cs j_18) a2) ≤ 0 → r8 (x6 + (-1)) mn cs nx gs)))))
def lX1_keep_8 (a1 : Int32) (a2 : Int64) (a4 : Int32) (a5 : Int32) (Post : (Nat → Int32) → (Nat → Int64) → (Nat → Int32) → (Nat → Int32) → Prop) : Nat → Int32 → (Nat → Int32) → (Nat → Int64) → (Nat → Int32) → (Nat → Int32) → Prop
  | 0, _, _, _, _, _ => False
  | n + 1, x6, mn, cs, nx, gs => bX1_keep_8 a1 a2 a4 a5 Post (lX1_keep_8 a1 a2 a4 a5 Post n) x6 mn cs nx gs
def wX1_keep (mn : Nat → Int32) (cs : Nat → Int64) (nx : Nat → Int32) (gs : Nat → Int32) (a1 : Int32) (a2 : Int64) (a4 : Int32) (a5 : Int32) (Post : (Nat → Int32) → (Nat → Int64) → (Nat → Int32) → (Nat → Int32) → Prop) : Prop :=
  pIn a1 61 (fun j_1 => ∀ x6_2 : Int32, x6_2 = (mn j_1) → ∃ n : Nat, lX1_keep_8 a1 a2 a4 a5 Post n x6_2 mn cs nx gs)
def bX1_look_62 (nW : Nat) (nH : Nat) (dk : Nat → Int32) (a1 : Int32) (a2 : Int32) (Post : (Int32) → (Nat → Int64) → (Nat → Int32) → Prop) (r52 : Int32 → (Int32) → (Nat → Int64) → (Nat → Int32) → Prop) (r62 : Int32 → Int32 → (Int32) → (Nat → Int64) → (Nat → Int32) → Prop) (x3 : Int32) (x4 : Int32) (wd : Int32) (sg : Nat → Int64) (my : Nat → Int32) : Prop :=
  ((a2 < x4 → r52 (x3 + 1) wd sg my) ∧ (¬ a2 < x4 → pIn x3 61 (fun j_3 => (((my j_3) = 0 → pIn ((61 * x3) + x4) 3721 (fun j_4 => r62 x3 (x4 + 1) wd (vp_updL sg j_4 (-1)) my)) ∧ (¬ (my j_3) = 0 → pIn x4 61 (fun j_5 => (((my j_5) = 0 → pIn ((61 * x3) + x4) 3721 (fun j_6 => r62 x3 (x4 + 1) wd (vp_updL sg j_6 (-1)) my)) ∧ (¬ (my j_5) = 0 → wX1_sign nW nH wd dk x3 x4 (fun r_7 => pIn ((61 * x3) + x4) 3721 (fun j_8 => r62 x3 (x4 + 1) wd (vp_updL sg j_8 r_7) my))))))))))
def lX1_look_62 (nW : Nat) (nH : Nat) (dk : Nat → Int32) (a1 : Int32) (a2 : Int32) (Post : (Int32) → (Nat → Int64) → (Nat → Int32) → Prop) (r52 : Int32 → (Int32) → (Nat → Int64) → (Nat → Int32) → Prop) : Nat → Int32 → Int32 → (Int32) → (Nat → Int64) → (Nat → Int32) → Prop
  | 0, _, _, _, _, _ => False
  | n + 1, x3, x4, wd, sg, my => bX1_look_62 nW nH dk a1 a2 Post r52 (lX1_look_62 nW nH dk a1 a2 Post r52 n) x3 x4 wd sg my
def bX1_look_52 (nW : Nat) (nH : Nat) (dk : Nat → Int32) (a1 : Int32) (a2 : Int32) (Post : (Int32) → (Nat → Int64) → (Nat → Int32) → Prop) (r52 : Int32 → (Int32) → (Nat → Int64) → (Nat → Int32) → Prop) (x3 : Int32) (wd : Int32) (sg : Nat → Int64) (my : Nat → Int32) : Prop :=
  ((a2 ≤ x3 → Post wd sg my) ∧ (¬ a2 ≤ x3 → ∀ x4_2 : Int32, x4_2 = (x3 + 1) → ∃ n : Nat, lX1_look_62 nW nH dk a1 a2 Post r52 n x3 x4_2 wd sg my))
def lX1_look_52 (nW : Nat) (nH : Nat) (dk : Nat → Int32) (a1 : Int32) (a2 : Int32) (Post : (Int32) → (Nat → Int64) → (Nat → Int32) → Prop) : Nat → Int32 → (Int32) → (Nat → Int64) → (Nat → Int32) → Prop
  | 0, _, _, _, _ => False
  | n + 1, x3, wd, sg, my => bX1_look_52 nW nH dk a1 a2 Post (lX1_look_52 nW nH dk a1 a2 Post n) x3 wd sg my
def bX1_look_10 (nW : Nat) (nH : Nat) (dk : Nat → Int32) (a1 : Int32) (a2 : Int32) (Post : (Int32) → (Nat → Int64) → (Nat → Int32) → Prop) (r10 : Int32 → (Int32) → (Nat → Int64) → (Nat → Int32) → Prop) (x3 : Int32) (wd : Int32) (sg : Nat → Int64) (my : Nat → Int32) : Prop :=
  ((a2 < x3 → ∃ n : Nat, lX1_look_52 nW nH dk a1 a2 Post n a1 wd sg my) ∧ (¬ a2 < x3 → ((x3 = a1 → pIn x3 61 (fun j_11 => r10 (x3 + 1) wd sg (upd my j_11 (vp_nar .boolean 1)))) ∧ (¬ x3 = a1 → ((x3 = a2 → pIn x3 61 (fun j_12 => r10 (x3 + 1) wd sg (upd my j_12 (vp_nar .boolean 1)))) ∧ (¬ x3 = a2 → wX1_mayCut nW nH dk x3 (fun r_13 => ((r_13 = 0 → pIn x3 61 (fun j_14 => r10 (x3 + 1) wd sg (upd my j_14 (vp_nar .boolean 0)))) ∧ (¬ r_13 = 0 → pIn x3 61 (fun j_15 => r10 (x3 + 1) wd sg (upd my j_15 (vp_nar .boolean 1))))))))))))
def lX1_look_10 (nW : Nat) (nH : Nat) (dk : Nat → Int32) (a1 : Int32) (a2 : Int32) (Post : (Int32) → (Nat → Int64) → (Nat → Int32) → Prop) : Nat → Int32 → (Int32) → (Nat → Int64) → (Nat → Int32) → Prop
  | 0, _, _, _, _ => False
  | n + 1, x3, wd, sg, my => bX1_look_10 nW nH dk a1 a2 Post (lX1_look_10 nW nH dk a1 a2 Post n) x3 wd sg my
def wX1_look (nW : Nat) (nH : Nat) (dk : Nat → Int32) (wd : Int32) (sg : Nat → Int64) (my : Nat → Int32) (a1 : Int32) (a2 : Int32) (Post : (Int32) → (Nat → Int64) → (Nat → Int32) → Prop) : Prop :=
  wX1_due nW nH dk (fun r_1 => ∃ n : Nat, lX1_look_10 nW nH dk a1 a2 Post n a1 r_1 sg my)
def jX1_fill_117 (nW : Nat) (nH : Nat) (dk : Nat → Int32) (a1 : Int32) (a2 : Int32) (Post : (Int32) → (Nat → Int32) → (Nat → Int64) → (Nat → Int32) → (Nat → Int32) → (Nat → Int64) → (Nat → Int32) → Prop) (r8 : Int32 → (Int32) → (Nat → Int32) → (Nat → Int64) → (Nat → Int32) → (Nat → Int32) → (Nat → Int64) → (Nat → Int32) → Prop) (r50 : Int32 → Int32 → (Int32) → (Nat → Int32) → (Nat → Int64) → (Nat → Int32) → (Nat → Int32) → (Nat → Int64) → (Nat → Int32) → Prop) (r73 : Int32 → Int32 → Int64 → Int32 → (Int32) → (Nat → Int32) → (Nat → Int64) → (Nat → Int32) → (Nat → Int32) → (Nat → Int64) → (Nat → Int32) → Prop) (x3 : Int32) (x4 : Int32) (x5 : Int64) (x7 : Int32) (s0 : Int64) (s1 : Int64) (s2 : Int32) (wd : Int32) (mn : Nat → Int32) (cs : Nat → Int64) (nx : Nat → Int32) (gs : Nat → Int32) (sg : Nat → Int64) (my : Nat → Int32) : Prop :=
  pIn ((40 * x4) + x7) 2440 (fun j_12 => wX1_keep mn cs nx gs s2 ((s1 + s0) + (cs j_12)) x4 x7 (fun mn_15 cs_16 nx_17 gs_18 => r73 x3 x4 x5 (x7 + 1) wd mn_15 cs_16 nx_17 gs_18 sg my))
def bX1_fill_73 (nW : Nat) (nH : Nat) (dk : Nat → Int32) (a1 : Int32) (a2 : Int32) (Post : (Int32) → (Nat → Int32) → (Nat → Int64) → (Nat → Int32) → (Nat → Int32) → (Nat → Int64) → (Nat → Int32) → Prop) (r8 : Int32 → (Int32) → (Nat → Int32) → (Nat → Int64) → (Nat → Int32) → (Nat → Int32) → (Nat → Int64) → (Nat → Int32) → Prop) (r50 : Int32 → Int32 → (Int32) → (Nat → Int32) → (Nat → Int64) → (Nat → Int32) → (Nat → Int32) → (Nat → Int64) → (Nat → Int32) → Prop) (r73 : Int32 → Int32 → Int64 → Int32 → (Int32) → (Nat → Int32) → (Nat → Int64) → (Nat → Int32) → (Nat → Int32) → (Nat → Int64) → (Nat → Int32) → Prop) (x3 : Int32) (x4 : Int32) (x5 : Int64) (x7 : Int32) (wd : Int32) (mn : Nat → Int32) (cs : Nat → Int64) (nx : Nat → Int32) (gs : Nat → Int32) (sg : Nat → Int64) (my : Nat → Int32) : Prop :=
  pIn x4 61 (fun j_11 => (((mn j_11) ≤ x7 → r50 x3 (x4 + 1) wd mn cs nx gs sg my) ∧ (¬ (mn j_11) ≤ x7 → (((lg_cmp x5 0) < 0 → r50 x3 (x4 + 1) wd mn cs nx gs sg my) ∧ (¬ (lg_cmp x5 0) < 0 → ((a2 ≤ x4 → jX1_fill_117 nW nH dk a1 a2 Post r8 r50 r73 x3 x4 x5 x7 0 x5 x3 wd mn cs nx gs sg my) ∧ (¬ a2 ≤ x4 → wX1_touch nH dk x4 (fun r_19 => jX1_fill_117 nW nH dk a1 a2 Post r8 r50 r73 x3 x4 x5 x7 (10 * (Int32.toInt64 r_19)) x5 x3 wd mn cs nx gs sg my))))))))
def lX1_fill_73 (nW : Nat) (nH : Nat) (dk : Nat → Int32) (a1 : Int32) (a2 : Int32) (Post : (Int32) → (Nat → Int32) → (Nat → Int64) → (Nat → Int32) → (Nat → Int32) → (Nat → Int64) → (Nat → Int32) → Prop) (r8 : Int32 → (Int32) → (Nat → Int32) → (Nat → Int64) → (Nat → Int32) → (Nat → Int32) → (Nat → Int64) → (Nat → Int32) → Prop) (r50 : Int32 → Int32 → (Int32) → (Nat → Int32) → (Nat → Int64) → (Nat → Int32) → (Nat → Int32) → (Nat → Int64) → (Nat → Int32) → Prop) : Nat → Int32 → Int32 → Int64 → Int32 → (Int32) → (Nat → Int32) → (Nat → Int64) → (Nat → Int32) → (Nat → Int32) → (Nat → Int64) → (Nat → Int32) → Prop
  | 0, _, _, _, _, _, _, _, _, _, _, _ => False
  | n + 1, x3, x4, x5, x7, wd, mn, cs, nx, gs, sg, my => bX1_fill_73 nW nH dk a1 a2 Post r8 r50 (lX1_fill_73 nW nH dk a1 a2 Post r8 r50 n) x3 x4 x5 x7 wd mn cs nx gs sg my
def bX1_fill_50 (nW : Nat) (nH : Nat) (dk : Nat → Int32) (a1 : Int32) (a2 : Int32) (Post : (Int32) → (Nat → Int32) → (Nat → Int64) → (Nat → Int32) → (Nat → Int32) → (Nat → Int64) → (Nat → Int32) → Prop) (r8 : Int32 → (Int32) → (Nat → Int32) → (Nat → Int64) → (Nat → Int32) → (Nat → Int32) → (Nat → Int64) → (Nat → Int32) → Prop) (r50 : Int32 → Int32 → (Int32) → (Nat → Int32) → (Nat → Int64) → (Nat → Int32) → (Nat → Int32) → (Nat → Int64) → (Nat → Int32) → Prop) (x3 : Int32) (x4 : Int32) (wd : Int32) (mn : Nat → Int32) (cs : Nat → Int64) (nx : Nat → Int32) (gs : Nat → Int32) (sg : Nat → Int64) (my : Nat → Int32) : Prop :=
  ((a2 < x4 → r8 (x3 + (-1)) wd mn cs nx gs sg my) ∧ (¬ a2 < x4 → pIn ((61 * x3) + x4) 3721 (fun j_9 => ∀ x5_10 : Int64, x5_10 = (sg j_9) → ∃ n : Nat, lX1_fill_73 nW nH dk a1 a2 Post r8 r50 n x3 x4 x5_10 0 wd mn cs nx gs sg my)))
def lX1_fill_50 (nW : Nat) (nH : Nat) (dk : Nat → Int32) (a1 : Int32) (a2 : Int32) (Post : (Int32) → (Nat → Int32) → (Nat → Int64) → (Nat → Int32) → (Nat → Int32) → (Nat → Int64) → (Nat → Int32) → Prop) (r8 : Int32 → (Int32) → (Nat → Int32) → (Nat → Int64) → (Nat → Int32) → (Nat → Int32) → (Nat → Int64) → (Nat → Int32) → Prop) : Nat → Int32 → Int32 → (Int32) → (Nat → Int32) → (Nat → Int64) → (Nat → Int32) → (Nat → Int32) → (Nat → Int64) → (Nat → Int32) → Prop
  | 0, _, _, _, _, _, _, _, _, _ => False
  | n + 1, x3, x4, wd, mn, cs, nx, gs, sg, my => bX1_fill_50 nW nH dk a1 a2 Post r8 (lX1_fill_50 nW nH dk a1 a2 Post r8 n) x3 x4 wd mn cs nx gs sg my
def bX1_fill_8 (nW : Nat) (nH : Nat) (dk : Nat → Int32) (a1 : Int32) (a2 : Int32) (Post : (Int32) → (Nat → Int32) → (Nat → Int64) → (Nat → Int32) → (Nat → Int32) → (Nat → Int64) → (Nat → Int32) → Prop) (r8 : Int32 → (Int32) → (Nat → Int32) → (Nat → Int64) → (Nat → Int32) → (Nat → Int32) → (Nat → Int64) → (Nat → Int32) → Prop) (x3 : Int32) (wd : Int32) (mn : Nat → Int32) (cs : Nat → Int64) (nx : Nat → Int32) (gs : Nat → Int32) (sg : Nat → Int64) (my : Nat → Int32) : Prop :=
  ((x3 < a1 → Post wd mn cs nx gs sg my) ∧ (¬ x3 < a1 → pIn x3 61 (fun j_6 => ((x3 = a2 → wX1_keep (upd mn j_6 0) cs nx gs x3 0 (-1) (-1) (fun mn_24 cs_25 nx_26 gs_27 => r8 (x3 + (-1)) wd mn_24 cs_25 nx_26 gs_27 sg my)) ∧ (¬ x3 = a2 → pIn x3 61 (fun j_7 => (((my j_7) = 0 → r8 (x3 + (-1)) wd (upd mn j_6 0) cs nx gs sg my) ∧ (¬ (my j_7) = 0 → ∀ x4_8 : Int32, x4_8 = (x3 + 1) → ∃ n : Nat, lX1_fill_50 nW nH dk a1 a2 Post r8 n x3 x4_8 wd (upd mn j_6 0) cs nx gs sg my))))))))
def lX1_fill_8 (nW : Nat) (nH : Nat) (dk : Nat → Int32) (a1 : Int32) (a2 : Int32) (Post : (Int32) → (Nat → Int32) → (Nat → Int64) → (Nat → Int32) → (Nat → Int32) → (Nat → Int64) → (Nat → Int32) → Prop) : Nat → Int32 → (Int32) → (Nat → Int32) → (Nat → Int64) → (Nat → Int32) → (Nat → Int32) → (Nat → Int64) → (Nat → Int32) → Prop
  | 0, _, _, _, _, _, _, _, _ => False
  | n + 1, x3, wd, mn, cs, nx, gs, sg, my => bX1_fill_8 nW nH dk a1 a2 Post (lX1_fill_8 nW nH dk a1 a2 Post n) x3 wd mn cs nx gs sg my
def wX1_fill (nW : Nat) (nH : Nat) (dk : Nat → Int32) (wd : Int32) (mn : Nat → Int32) (cs : Nat → Int64) (nx : Nat → Int32) (gs : Nat → Int32) (sg : Nat → Int64) (my : Nat → Int32) (a1 : Int32) (a2 : Int32) (Post : (Int32) → (Nat → Int32) → (Nat → Int64) → (Nat → Int32) → (Nat → Int32) → (Nat → Int64) → (Nat → Int32) → Prop) : Prop :=
  wX1_look nW nH dk wd sg my a1 a2 (fun wd_3 sg_4 my_5 => ∃ n : Nat, lX1_fill_8 nW nH dk a1 a2 Post n a2 wd_3 mn cs nx gs sg_4 my_5)
def bX1_cut_110 (nW : Nat) (nH : Nat) (dk : Nat → Int32) (a1 : Int32) (Post : Int32 → (Int32) → (Int32) → (Int32) → (Nat → Int32) → (Nat → Int64) → (Nat → Int32) → (Nat → Int32) → (Nat → Int64) → (Nat → Int32) → (Nat → Int32) → (Nat → Int64) → (Nat → Int32) → Prop) (r72 : Int32 → Int32 → (Int32) → (Int32) → (Int32) → (Nat → Int32) → (Nat → Int64) → (Nat → Int32) → (Nat → Int32) → (Nat → Int64) → (Nat → Int32) → (Nat → Int32) → (Nat → Int64) → (Nat → Int32) → Prop) (r110 : Int32 → Int32 → Int32 → Int32 → (Int32) → (Int32) → (Int32) → (Nat → Int32) → (Nat → Int64) → (Nat → Int32) → (Nat → Int32) → (Nat → Int64) → (Nat → Int32) → (Nat → Int32) → (Nat → Int64) → (Nat → Int32) → Prop) (x2 : Int32) (x3 : Int32) (x4 : Int32) (x5 : Int32) (th : Int32) (fn : Int32) (wd : Int32) (mn : Nat → Int32) (cs : Nat → Int64) (nx : Nat → Int32) (gs : Nat → Int32) (pr : Nat → Int64) (ln : Nat → Int32) (wy : Nat → Int32) (sg : Nat → Int64) (my : Nat → Int32) : Prop :=
  ((x4 = (-1) → r72 x2 (x3 + 1) th fn wd mn cs nx gs pr ln wy sg my) ∧ (¬ x4 = (-1) → pIn x3 40 (fun j_17 => pIn ((62 * x3) + (ln j_17)) 2480 (fun j_18 => pIn x3 40 (fun j_19 => pIn x3 40 (fun j_20 => pIn ((40 * x4) + x5) 2440 (fun j_21 => ∀ x6_22 : Int32, x6_22 = (nx j_21) → pIn ((40 * x4) + x5) 2440 (fun j_23 => ∀ x5_24 : Int32, x5_24 = (gs j_23) → r110 x2 x3 x6_22 x5_24 th fn wd mn cs nx gs pr (upd ln j_20 ((ln j_19) + 1)) (upd wy j_18 x4) sg my))))))))
def lX1_cut_110 (nW : Nat) (nH : Nat) (dk : Nat → Int32) (a1 : Int32) (Post : Int32 → (Int32) → (Int32) → (Int32) → (Nat → Int32) → (Nat → Int64) → (Nat → Int32) → (Nat → Int32) → (Nat → Int64) → (Nat → Int32) → (Nat → Int32) → (Nat → Int64) → (Nat → Int32) → Prop) (r72 : Int32 → Int32 → (Int32) → (Int32) → (Int32) → (Nat → Int32) → (Nat → Int64) → (Nat → Int32) → (Nat → Int32) → (Nat → Int64) → (Nat → Int32) → (Nat → Int32) → (Nat → Int64) → (Nat → Int32) → Prop) : Nat → Int32 → Int32 → Int32 → Int32 → (Int32) → (Int32) → (Int32) → (Nat → Int32) → (Nat → Int64) → (Nat → Int32) → (Nat → Int32) → (Nat → Int64) → (Nat → Int32) → (Nat → Int32) → (Nat → Int64) → (Nat → Int32) → Prop
  | 0, _, _, _, _, _, _, _, _, _, _, _, _, _, _, _, _ => False
  | n + 1, x2, x3, x4, x5, th, fn, wd, mn, cs, nx, gs, pr, ln, wy, sg, my => bX1_cut_110 nW nH dk a1 Post r72 (lX1_cut_110 nW nH dk a1 Post r72 n) x2 x3 x4 x5 th fn wd mn cs nx gs pr ln wy sg my
def bX1_cut_72 (nW : Nat) (nH : Nat) (dk : Nat → Int32) (a1 : Int32) (Post : Int32 → (Int32) → (Int32) → (Int32) → (Nat → Int32) → (Nat → Int64) → (Nat → Int32) → (Nat → Int32) → (Nat → Int64) → (Nat → Int32) → (Nat → Int32) → (Nat → Int64) → (Nat → Int32) → Prop) (r72 : Int32 → Int32 → (Int32) → (Int32) → (Int32) → (Nat → Int32) → (Nat → Int64) → (Nat → Int32) → (Nat → Int32) → (Nat → Int64) → (Nat → Int32) → (Nat → Int32) → (Nat → Int64) → (Nat → Int32) → Prop) (x2 : Int32) (x3 : Int32) (th : Int32) (fn : Int32) (wd : Int32) (mn : Nat → Int32) (cs : Nat → Int64) (nx : Nat → Int32) (gs : Nat → Int32) (pr : Nat → Int64) (ln : Nat → Int32) (wy : Nat → Int32) (sg : Nat → Int64) (my : Nat → Int32) : Prop :=
  ((fn ≤ x3 → Post fn th fn wd mn cs nx gs pr ln wy sg my) ∧ (¬ fn ≤ x3 → pIn ((40 * x2) + x3) 2440 (fun j_14 => pIn x3 40 (fun j_15 => pIn x3 40 (fun j_16 => ∃ n : Nat, lX1_cut_110 nW nH dk a1 Post r72 n x2 x3 x2 x3 th fn wd mn cs nx gs (vp_updL pr j_15 (cs j_14)) (upd ln j_16 0) wy sg my)))))
def lX1_cut_72 (nW : Nat) (nH : Nat) (dk : Nat → Int32) (a1 : Int32) (Post : Int32 → (Int32) → (Int32) → (Int32) → (Nat → Int32) → (Nat → Int64) → (Nat → Int32) → (Nat → Int32) → (Nat → Int64) → (Nat → Int32) → (Nat → Int32) → (Nat → Int64) → (Nat → Int32) → Prop) : Nat → Int32 → Int32 → (Int32) → (Int32) → (Int32) → (Nat → Int32) → (Nat → Int64) → (Nat → Int32) → (Nat → Int32) → (Nat → Int64) → (Nat → Int32) → (Nat → Int32) → (Nat → Int64) → (Nat → Int32) → Prop
  | 0, _, _, _, _, _, _, _, _, _, _, _, _, _, _ => False
  | n + 1, x2, x3, th, fn, wd, mn, cs, nx, gs, pr, ln, wy, sg, my => bX1_cut_72 nW nH dk a1 Post (lX1_cut_72 nW nH dk a1 Post n) x2 x3 th fn wd mn cs nx gs pr ln wy sg my
def wX1_cut (nW : Nat) (nH : Nat) (dk : Nat → Int32) (th : Int32) (fn : Int32) (wd : Int32) (mn : Nat → Int32) (cs : Nat → Int64) (nx : Nat → Int32) (gs : Nat → Int32) (pr : Nat → Int64) (ln : Nat → Int32) (wy : Nat → Int32) (sg : Nat → Int64) (my : Nat → Int32) (a1 : Int32) (Post : Int32 → (Int32) → (Int32) → (Int32) → (Nat → Int32) → (Nat → Int64) → (Nat → Int32) → (Nat → Int32) → (Nat → Int64) → (Nat → Int32) → (Nat → Int32) → (Nat → Int64) → (Nat → Int32) → Prop) : Prop :=
  ((a1 < 1 → Post (-1) 0 fn wd mn cs nx gs pr ln wy sg my) ∧ (¬ a1 < 1 → ((a1 ≤ 40 → wX1_mostInRow nW nH dk (fun r_1 => ((r_1 = 0 → Post 0 0 0 wd mn cs nx gs pr ln wy sg my) ∧ (¬ r_1 = 0 → wX1_from nW nH dk (fun r_2 => wX1_until nW nH dk (fun r_3 => wX1_fill nW nH dk wd mn cs nx gs sg my r_2 r_3 (fun wd_6 mn_7 cs_8 nx_9 gs_10 sg_11 my_12 => pIn r_2 61 (fun j_13 => ((a1 ≤ (mn_7 j_13) → ∃ n : Nat, lX1_cut_72 nW nH dk a1 Post n r_2 0 0 a1 wd_6 mn_7 cs_8 nx_9 gs_10 pr ln wy sg_11 my_12) ∧ (¬ a1 ≤ (mn_7 j_13) → pIn r_2 61 (fun j_27 => ∀ v_28 : Int32, v_28 = (mn_7 j_27) → ∃ n : Nat, lX1_cut_72 nW nH dk a1 Post n r_2 0 0 v_28 wd_6 mn_7 cs_8 nx_9 gs_10 pr ln wy sg_11 my_12))))))))))) ∧ (¬ a1 ≤ 40 → Post (-1) 0 fn wd mn cs nx gs pr ln wy sg my))))
def wX1_way (fn : Int32) (ln : Nat → Int32) (wy : Nat → Int32) (th : Int32) (a1 : Int32) (a2 : Int32) (Post : Int32 → (Int32) → Prop) : Prop :=
  ((a1 < 0 → Post (-1) 0) ∧ (¬ a1 < 0 → ((fn ≤ a1 → Post (-1) 0) ∧ (¬ fn ≤ a1 → ((a2 < 0 → Post (-1) 0) ∧ (¬ a2 < 0 → pIn a1 40 (fun j_1 => ((a2 < (ln j_1) → pIn ((62 * a1) + a2) 2480 (fun j_2 => Post (wy j_2) 0)) ∧ (¬ a2 < (ln j_1) → Post (-1) 0)))))))))
def wX1_cost (fn : Int32) (pr : Nat → Int64) (th : Int32) (a1 : Int32) (Post : Int64 → (Int32) → Prop) : Prop :=
  ((a1 < 0 → Post (-1) 0) ∧ (¬ a1 < 0 → ((a1 < fn → pIn a1 40 (fun j_1 => Post (pr j_1) 0)) ∧ (¬ a1 < fn → Post (-1) 0))))
def wX1_signs (fn : Int32) (ln : Nat → Int32) (th : Int32) (a1 : Int32) (Post : Int32 → (Int32) → Prop) : Prop :=
  ((a1 < 0 → Post (-1) 0) ∧ (¬ a1 < 0 → ((a1 < fn → pIn a1 40 (fun j_1 => Post ((ln j_1) - 1) 0)) ∧ (¬ a1 < fn → Post (-1) 0))))
def bX1_base_89 (nW : Nat) (nH : Nat) (dk : Nat → Int32) (a1 : Int32) (Post : Int32 → (Int32) → Prop) (r89 : Int32 → Int32 → (Int32) → Prop) (x2 : Int32) (x3 : Int32) (th : Int32) : Prop :=
  wX1_until nW nH dk (fun r_4 => ((r_4 ≤ x3 → Post x2 th) ∧ (¬ r_4 ≤ x3 → wX1_mayCut nW nH dk x3 (fun r_5 => ((r_5 = 0 → r89 x2 (x3 + 1) th) ∧ (¬ r_5 = 0 → ∀ x2_6 : Int32, x2_6 = (x2 + 1) → r89 x2_6 (x3 + 1) th))))))
def lX1_base_89 (nW : Nat) (nH : Nat) (dk : Nat → Int32) (a1 : Int32) (Post : Int32 → (Int32) → Prop) : Nat → Int32 → Int32 → (Int32) → Prop
  | 0, _, _, _ => False
  | n + 1, x2, x3, th => bX1_base_89 nW nH dk a1 Post (lX1_base_89 nW nH dk a1 Post n) x2 x3 th
def wX1_base (nW : Nat) (nH : Nat) (dk : Nat → Int32) (th : Int32) (a1 : Int32) (Post : Int32 → (Int32) → Prop) : Prop :=
  wX1_mostInRow nW nH dk (fun r_1 => ((r_1 = 0 → Post (-1) 0) ∧ (¬ r_1 = 0 → ((a1 < 0 → Post (-1) 0) ∧ (¬ a1 < 0 → ((a1 ≤ 5 → ((5 ≤ a1 → wX1_from nW nH dk (fun r_2 => ∀ x3_3 : Int32, x3_3 = (r_2 + 1) → ∃ n : Nat, lX1_base_89 nW nH dk a1 Post n 0 x3_3 0)) ∧ (¬ 5 ≤ a1 → ((a1 = 0 → wX1_middle nW nH dk (fun r_12 => Post r_12 0)) ∧ (¬ a1 = 0 → ((a1 = 1 → wX1_baseline nW nH dk (fun r_11 => Post r_11 0)) ∧ (¬ a1 = 1 → ((a1 = 2 → wX1_due nW nH dk (fun r_10 => Post r_10 0)) ∧ (¬ a1 = 2 → ((a1 = 3 → wX1_from nW nH dk (fun r_9 => Post r_9 0)) ∧ (¬ a1 = 3 → wX1_until nW nH dk (fun r_8 => Post r_8 0)))))))))))) ∧ (¬ a1 ≤ 5 → Post (-1) 0)))))))
def jX1_columns_112 (nW : Nat) (nH : Nat) (dk : Nat → Int32) (a1 : Int32) (Post : Int32 → Prop) (r5 : Int32 → Int32 → Prop) (x2 : Int32) (x3 : Int32) (x4 : Int32) : Prop :=
  ((x4 = 0 → r5 x2 (x3 + 1)) ∧ (¬ x4 = 0 → ∀ x2_1 : Int32, x2_1 = (x2 + 1) → r5 x2_1 (x3 + 1)))
def jX1_columns_66 (nW : Nat) (nH : Nat) (dk : Nat → Int32) (a1 : Int32) (Post : Int32 → Prop) (r5 : Int32 → Int32 → Prop) (r17 : Int32 → Int32 → Int32 → Int32 → Prop) (x2 : Int32) (x3 : Int32) (x5 : Int32) (s0 : Int32) : Prop :=
  (((x3 - s0) < 0 → r17 x2 x3 0 (x5 + 1)) ∧ (¬ (x3 - s0) < 0 → (((nI nW) ≤ (x3 - s0) → r17 x2 x3 0 (x5 + 1)) ∧ (¬ (nI nW) ≤ (x3 - s0) → wX1_isDark dk (x3 - s0) x5 (fun r_3 => ((r_3 = 0 → r17 x2 x3 0 (x5 + 1)) ∧ (¬ r_3 = 0 → r17 x2 x3 1 (x5 + 1))))))))
def bX1_columns_17 (nW : Nat) (nH : Nat) (dk : Nat → Int32) (a1 : Int32) (Post : Int32 → Prop) (r5 : Int32 → Int32 → Prop) (r17 : Int32 → Int32 → Int32 → Int32 → Prop) (x2 : Int32) (x3 : Int32) (x4 : Int32) (x5 : Int32) : Prop :=
  (((nI nH) ≤ x5 → jX1_columns_112 nW nH dk a1 Post r5 x2 x3 x4) ∧ (¬ (nI nH) ≤ x5 → ((x4 = 0 → ∀ x6_2 : Int32, x6_2 = (a1 * (((nI nH) - 1) - x5)) → ((x6_2 < 0 → jX1_columns_66 nW nH dk a1 Post r5 r17 x2 x3 x5 (-((7 - x6_2) / 8))) ∧ (¬ x6_2 < 0 → jX1_columns_66 nW nH dk a1 Post r5 r17 x2 x3 x5 (x6_2 / 8)))) ∧ (¬ x4 = 0 → jX1_columns_112 nW nH dk a1 Post r5 x2 x3 x4))))
def lX1_columns_17 (nW : Nat) (nH : Nat) (dk : Nat → Int32) (a1 : Int32) (Post : Int32 → Prop) (r5 : Int32 → Int32 → Prop) : Nat → Int32 → Int32 → Int32 → Int32 → Prop
  | 0, _, _, _, _ => False
  | n + 1, x2, x3, x4, x5 => bX1_columns_17 nW nH dk a1 Post r5 (lX1_columns_17 nW nH dk a1 Post r5 n) x2 x3 x4 x5
def bX1_columns_5 (nW : Nat) (nH : Nat) (dk : Nat → Int32) (a1 : Int32) (Post : Int32 → Prop) (r5 : Int32 → Int32 → Prop) (x2 : Int32) (x3 : Int32) : Prop :=
  ((120 ≤ x3 → Post x2) ∧ (¬ 120 ≤ x3 → ∃ n : Nat, lX1_columns_17 nW nH dk a1 Post r5 n x2 x3 0 0))
def lX1_columns_5 (nW : Nat) (nH : Nat) (dk : Nat → Int32) (a1 : Int32) (Post : Int32 → Prop) : Nat → Int32 → Int32 → Prop
  | 0, _, _ => False
  | n + 1, x2, x3 => bX1_columns_5 nW nH dk a1 Post (lX1_columns_5 nW nH dk a1 Post n) x2 x3
def wX1_columns (nW : Nat) (nH : Nat) (dk : Nat → Int32) (a1 : Int32) (Post : Int32 → Prop) : Prop :=
  ∃ n : Nat, lX1_columns_5 nW nH dk a1 Post n 0 (-60)
def jX1_slant_73 (nW : Nat) (nH : Nat) (dk : Nat → Int32) (Post : Int32 → (Int32) → Prop) (r15 : Int32 → Int32 → Int32 → (Int32) → Prop) (x2 : Int32) (x3 : Int32) (x5 : Int32) (s0 : Int32) (th : Int32) : Prop :=
  ((x2 ≤ x5 → r15 s0 x2 (x3 + 1) th) ∧ (¬ x2 ≤ x5 → r15 s0 x5 (x3 + 1) th))
def jX1_slant_54 (nW : Nat) (nH : Nat) (dk : Nat → Int32) (Post : Int32 → (Int32) → Prop) (r15 : Int32 → Int32 → Int32 → (Int32) → Prop) (x1 : Int32) (x3 : Int32) (s0 : Int32) (th : Int32) : Prop :=
  wX1_columns nW nH dk x3 (fun r_3 => ((s0 ≤ r_3 → jX1_slant_73 nW nH dk Post r15 s0 x3 r_3 x1 th) ∧ (¬ s0 ≤ r_3 → jX1_slant_73 nW nH dk Post r15 s0 x3 r_3 x3 th)))
def jX1_slant_41 (nW : Nat) (nH : Nat) (dk : Nat → Int32) (Post : Int32 → (Int32) → Prop) (r15 : Int32 → Int32 → Int32 → (Int32) → Prop) (x2 : Int32) (x3 : Int32) (x4 : Int32) (s0 : Int32) (th : Int32) : Prop :=
  ((x2 ≤ x4 → jX1_slant_54 nW nH dk Post r15 s0 x3 x2 th) ∧ (¬ x2 ≤ x4 → jX1_slant_54 nW nH dk Post r15 s0 x3 x4 th))
def bX1_slant_15 (nW : Nat) (nH : Nat) (dk : Nat → Int32) (Post : Int32 → (Int32) → Prop) (r15 : Int32 → Int32 → Int32 → (Int32) → Prop) (x1 : Int32) (x2 : Int32) (x3 : Int32) (th : Int32) : Prop :=
  ((7 ≤ x3 → Post x1 th) ∧ (¬ 7 ≤ x3 → wX1_columns nW nH dk (-x3) (fun r_2 => ((x2 ≤ r_2 → jX1_slant_41 nW nH dk Post r15 x2 x3 r_2 x1 th) ∧ (¬ x2 ≤ r_2 → jX1_slant_41 nW nH dk Post r15 x2 x3 r_2 (-x3) th)))))
def lX1_slant_15 (nW : Nat) (nH : Nat) (dk : Nat → Int32) (Post : Int32 → (Int32) → Prop) : Nat → Int32 → Int32 → Int32 → (Int32) → Prop
  | 0, _, _, _, _ => False
  | n + 1, x1, x2, x3, th => bX1_slant_15 nW nH dk Post (lX1_slant_15 nW nH dk Post n) x1 x2 x3 th
def wX1_slant (nW : Nat) (nH : Nat) (dk : Nat → Int32) (th : Int32) (Post : Int32 → (Int32) → Prop) : Prop :=
  wX1_columns nW nH dk 0 (fun r_1 => ∃ n : Nat, lX1_slant_15 nW nH dk Post n 0 r_1 1 0)
def bX1_plain_222 (nW : Nat) (nH : Nat) (dk : Nat → Int32) (a1 : Int32) (Post : Int32 → (Int32) → (Int32) → (Nat → Int64) → (Nat → Int64) → (Nat → Int64) → (Nat → Int32) → Prop) (r78 : Int32 → Int32 → Int32 → (Int32) → (Int32) → (Nat → Int64) → (Nat → Int64) → (Nat → Int64) → (Nat → Int32) → Prop) (r222 : Int32 → Int32 → Int32 → Int32 → (Int32) → (Int32) → (Nat → Int64) → (Nat → Int64) → (Nat → Int64) → (Nat → Int32) → Prop) (x2 : Int32) (x3 : Int32) (x4 : Int32) (x5 : Int32) (th : Int32) (wd : Int32) (ct : Nat → Int64) (bf : Nat → Int64) (sg : Nat → Int64) (my : Nat → Int32) : Prop :=
  ((x3 < x5 → r78 x2 x3 (x4 + 1) th wd ct bf sg my) ∧ (¬ x3 < x5 → ((x5 = x3 → (((a1 - 1) ≤ x4 → pIn x5 61 (fun j_12 => pIn x5 61 (fun j_13 => r222 x2 x3 x4 (x5 + 1) th wd ct (vp_updL bf j_13 (ct j_12)) sg my))) ∧ (¬ (a1 - 1) ≤ x4 → pIn x5 61 (fun j_14 => r222 x2 x3 x4 (x5 + 1) th wd ct (vp_updL bf j_14 0) sg my)))) ∧ (¬ x5 = x3 → pIn x5 61 (fun j_10 => pIn x5 61 (fun j_11 => r222 x2 x3 x4 (x5 + 1) th wd ct (vp_updL bf j_11 (ct j_10)) sg my))))))
def lX1_plain_222 (nW : Nat) (nH : Nat) (dk : Nat → Int32) (a1 : Int32) (Post : Int32 → (Int32) → (Int32) → (Nat → Int64) → (Nat → Int64) → (Nat → Int64) → (Nat → Int32) → Prop) (r78 : Int32 → Int32 → Int32 → (Int32) → (Int32) → (Nat → Int64) → (Nat → Int64) → (Nat → Int64) → (Nat → Int32) → Prop) : Nat → Int32 → Int32 → Int32 → Int32 → (Int32) → (Int32) → (Nat → Int64) → (Nat → Int64) → (Nat → Int64) → (Nat → Int32) → Prop
  | 0, _, _, _, _, _, _, _, _, _, _ => False
  | n + 1, x2, x3, x4, x5, th, wd, ct, bf, sg, my => bX1_plain_222 nW nH dk a1 Post r78 (lX1_plain_222 nW nH dk a1 Post r78 n) x2 x3 x4 x5 th wd ct bf sg my
def bX1_plain_104 (nW : Nat) (nH : Nat) (dk : Nat → Int32) (a1 : Int32) (Post : Int32 → (Int32) → (Int32) → (Nat → Int64) → (Nat → Int64) → (Nat → Int64) → (Nat → Int32) → Prop) (r78 : Int32 → Int32 → Int32 → (Int32) → (Int32) → (Nat → Int64) → (Nat → Int64) → (Nat → Int64) → (Nat → Int32) → Prop) (r87 : Int32 → Int32 → Int32 → Int32 → (Int32) → (Int32) → (Nat → Int64) → (Nat → Int64) → (Nat → Int64) → (Nat → Int32) → Prop) (r104 : Int32 → Int32 → Int32 → Int32 → Int32 → (Int32) → (Int32) → (Nat → Int64) → (Nat → Int64) → (Nat → Int64) → (Nat → Int32) → Prop) (x2 : Int32) (x3 : Int32) (x4 : Int32) (x5 : Int32) (x6 : Int32) (th : Int32) (wd : Int32) (ct : Nat → Int64) (bf : Nat → Int64) (sg : Nat → Int64) (my : Nat → Int32) : Prop :=
  ((x5 ≤ x6 → pIn x5 61 (fun j_17 => (((lg_cmp (ct j_17) 1000000000) ≤ 0 → pIn x5 61 (fun j_18 => pIn x5 61 (fun j_19 => r87 x2 x3 x4 (x5 + 1) th wd (vp_updL ct j_19 (ct j_18)) bf sg my))) ∧ (¬ (lg_cmp (ct j_17) 1000000000) ≤ 0 → pIn x5 61 (fun j_20 => r87 x2 x3 x4 (x5 + 1) th wd (vp_updL ct j_20 1000000000) bf sg my))))) ∧ (¬ x5 ≤ x6 → pIn x6 61 (fun j_21 => (((lg_cmp (bf j_21) 0) ≤ 0 → pIn x5 61 (fun j_22 => pIn x5 61 (fun j_23 => r104 x2 x3 x4 x5 (x6 + 1) th wd (vp_updL ct j_23 (ct j_22)) bf sg my))) ∧ (¬ (lg_cmp (bf j_21) 0) ≤ 0 → pIn ((61 * x6) + x5) 3721 (fun j_24 => (((lg_cmp (sg j_24) 0) < 0 → pIn x5 61 (fun j_25 => pIn x5 61 (fun j_26 => r104 x2 x3 x4 x5 (x6 + 1) th wd (vp_updL ct j_26 (ct j_25)) bf sg my))) ∧ (¬ (lg_cmp (sg j_24) 0) < 0 → pIn x5 61 (fun j_27 => pIn x6 61 (fun j_28 => pIn x5 61 (fun j_29 => r104 x2 x3 x4 x5 (x6 + 1) th wd (vp_updL ct j_29 ((ct j_27) + (bf j_28))) bf sg my)))))))))))
def lX1_plain_104 (nW : Nat) (nH : Nat) (dk : Nat → Int32) (a1 : Int32) (Post : Int32 → (Int32) → (Int32) → (Nat → Int64) → (Nat → Int64) → (Nat → Int64) → (Nat → Int32) → Prop) (r78 : Int32 → Int32 → Int32 → (Int32) → (Int32) → (Nat → Int64) → (Nat → Int64) → (Nat → Int64) → (Nat → Int32) → Prop) (r87 : Int32 → Int32 → Int32 → Int32 → (Int32) → (Int32) → (Nat → Int64) → (Nat → Int64) → (Nat → Int64) → (Nat → Int32) → Prop) : Nat → Int32 → Int32 → Int32 → Int32 → Int32 → (Int32) → (Int32) → (Nat → Int64) → (Nat → Int64) → (Nat → Int64) → (Nat → Int32) → Prop
  | 0, _, _, _, _, _, _, _, _, _, _, _ => False
  | n + 1, x2, x3, x4, x5, x6, th, wd, ct, bf, sg, my => bX1_plain_104 nW nH dk a1 Post r78 r87 (lX1_plain_104 nW nH dk a1 Post r78 r87 n) x2 x3 x4 x5 x6 th wd ct bf sg my
def bX1_plain_87 (nW : Nat) (nH : Nat) (dk : Nat → Int32) (a1 : Int32) (Post : Int32 → (Int32) → (Int32) → (Nat → Int64) → (Nat → Int64) → (Nat → Int64) → (Nat → Int32) → Prop) (r78 : Int32 → Int32 → Int32 → (Int32) → (Int32) → (Nat → Int64) → (Nat → Int64) → (Nat → Int64) → (Nat → Int32) → Prop) (r87 : Int32 → Int32 → Int32 → Int32 → (Int32) → (Int32) → (Nat → Int64) → (Nat → Int64) → (Nat → Int64) → (Nat → Int32) → Prop) (x2 : Int32) (x3 : Int32) (x4 : Int32) (x5 : Int32) (th : Int32) (wd : Int32) (ct : Nat → Int64) (bf : Nat → Int64) (sg : Nat → Int64) (my : Nat → Int32) : Prop :=
  ((x3 < x5 → ∃ n : Nat, lX1_plain_222 nW nH dk a1 Post r78 n x2 x3 x4 x2 th wd ct bf sg my) ∧ (¬ x3 < x5 → pIn x5 61 (fun j_16 => ∃ n : Nat, lX1_plain_104 nW nH dk a1 Post r78 r87 n x2 x3 x4 x5 x2 th wd (vp_updL ct j_16 0) bf sg my)))
def lX1_plain_87 (nW : Nat) (nH : Nat) (dk : Nat → Int32) (a1 : Int32) (Post : Int32 → (Int32) → (Int32) → (Nat → Int64) → (Nat → Int64) → (Nat → Int64) → (Nat → Int32) → Prop) (r78 : Int32 → Int32 → Int32 → (Int32) → (Int32) → (Nat → Int64) → (Nat → Int64) → (Nat → Int64) → (Nat → Int32) → Prop) : Nat → Int32 → Int32 → Int32 → Int32 → (Int32) → (Int32) → (Nat → Int64) → (Nat → Int64) → (Nat → Int64) → (Nat → Int32) → Prop
  | 0, _, _, _, _, _, _, _, _, _, _ => False
  | n + 1, x2, x3, x4, x5, th, wd, ct, bf, sg, my => bX1_plain_87 nW nH dk a1 Post r78 (lX1_plain_87 nW nH dk a1 Post r78 n) x2 x3 x4 x5 th wd ct bf sg my
def bX1_plain_78 (nW : Nat) (nH : Nat) (dk : Nat → Int32) (a1 : Int32) (Post : Int32 → (Int32) → (Int32) → (Nat → Int64) → (Nat → Int64) → (Nat → Int64) → (Nat → Int32) → Prop) (r78 : Int32 → Int32 → Int32 → (Int32) → (Int32) → (Nat → Int64) → (Nat → Int64) → (Nat → Int64) → (Nat → Int32) → Prop) (x2 : Int32) (x3 : Int32) (x4 : Int32) (th : Int32) (wd : Int32) (ct : Nat → Int64) (bf : Nat → Int64) (sg : Nat → Int64) (my : Nat → Int32) : Prop :=
  ((a1 ≤ x4 → pIn x3 61 (fun j_9 => Post (Int64.toInt32 (bf j_9)) th wd ct bf sg my)) ∧ (¬ a1 ≤ x4 → ∃ n : Nat, lX1_plain_87 nW nH dk a1 Post r78 n x2 x3 x4 x2 th wd ct bf sg my))
def lX1_plain_78 (nW : Nat) (nH : Nat) (dk : Nat → Int32) (a1 : Int32) (Post : Int32 → (Int32) → (Int32) → (Nat → Int64) → (Nat → Int64) → (Nat → Int64) → (Nat → Int32) → Prop) : Nat → Int32 → Int32 → Int32 → (Int32) → (Int32) → (Nat → Int64) → (Nat → Int64) → (Nat → Int64) → (Nat → Int32) → Prop
  | 0, _, _, _, _, _, _, _, _, _ => False
  | n + 1, x2, x3, x4, th, wd, ct, bf, sg, my => bX1_plain_78 nW nH dk a1 Post (lX1_plain_78 nW nH dk a1 Post n) x2 x3 x4 th wd ct bf sg my
def bX1_plain_44 (nW : Nat) (nH : Nat) (dk : Nat → Int32) (a1 : Int32) (Post : Int32 → (Int32) → (Int32) → (Nat → Int64) → (Nat → Int64) → (Nat → Int64) → (Nat → Int32) → Prop) (r44 : Int32 → Int32 → Int32 → (Int32) → (Int32) → (Nat → Int64) → (Nat → Int64) → (Nat → Int64) → (Nat → Int32) → Prop) (x2 : Int32) (x3 : Int32) (x4 : Int32) (th : Int32) (wd : Int32) (ct : Nat → Int64) (bf : Nat → Int64) (sg : Nat → Int64) (my : Nat → Int32) : Prop :=
  ((61 ≤ x4 → ∃ n : Nat, lX1_plain_78 nW nH dk a1 Post n x2 x3 0 th wd ct bf sg my) ∧ (¬ 61 ≤ x4 → ((x4 = x2 → pIn x4 61 (fun j_34 => r44 x2 x3 (x4 + 1) th wd ct (vp_updL bf j_34 1) sg my)) ∧ (¬ x4 = x2 → pIn x4 61 (fun j_33 => r44 x2 x3 (x4 + 1) th wd ct (vp_updL bf j_33 0) sg my)))))
def lX1_plain_44 (nW : Nat) (nH : Nat) (dk : Nat → Int32) (a1 : Int32) (Post : Int32 → (Int32) → (Int32) → (Nat → Int64) → (Nat → Int64) → (Nat → Int64) → (Nat → Int32) → Prop) : Nat → Int32 → Int32 → Int32 → (Int32) → (Int32) → (Nat → Int64) → (Nat → Int64) → (Nat → Int64) → (Nat → Int32) → Prop
  | 0, _, _, _, _, _, _, _, _, _ => False
  | n + 1, x2, x3, x4, th, wd, ct, bf, sg, my => bX1_plain_44 nW nH dk a1 Post (lX1_plain_44 nW nH dk a1 Post n) x2 x3 x4 th wd ct bf sg my
def wX1_plain (nW : Nat) (nH : Nat) (dk : Nat → Int32) (th : Int32) (wd : Int32) (ct : Nat → Int64) (bf : Nat → Int64) (sg : Nat → Int64) (my : Nat → Int32) (a1 : Int32) (Post : Int32 → (Int32) → (Int32) → (Nat → Int64) → (Nat → Int64) → (Nat → Int64) → (Nat → Int32) → Prop) : Prop :=
  wX1_mostInRow nW nH dk (fun r_1 => ((r_1 = 0 → Post 0 0 wd ct bf sg my) ∧ (¬ r_1 = 0 → ((a1 < 1 → Post 0 0 wd ct bf sg my) ∧ (¬ a1 < 1 → ((a1 ≤ 60 → wX1_from nW nH dk (fun r_2 => wX1_until nW nH dk (fun r_3 => wX1_look nW nH dk wd sg my r_2 r_3 (fun wd_6 sg_7 my_8 => ∃ n : Nat, lX1_plain_44 nW nH dk a1 Post n r_2 r_3 0 0 wd_6 ct bf sg_7 my_8)))) ∧ (¬ a1 ≤ 60 → Post 0 0 wd ct bf sg my)))))))
