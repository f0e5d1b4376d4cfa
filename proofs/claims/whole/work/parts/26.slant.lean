/-! ===== slant ===== -/
/-- how far aside a row k above the last goes, sheared by t - 6 (30 is no way aside) -/
def asd (t k : Nat) : Nat := (t * k + 240 - 6 * k) / 8
def sv (t : Nat) : Int32 := nI t - 6
def hyt (nW nH : Nat) (d : Nat → Nat → Bool) (t c y : Nat) : Bool := decide (asd t (nH - 1 - y) ≤ c) && (decide (c - asd t (nH - 1 - y) < nW) && d (c - asd t (nH - 1 - y)) y)
def hit (nW nH : Nat) (d : Nat → Nat → Bool) (t i c : Nat) : Bool := decide (0 < cnt (hyt nW nH d t c) i)
def nCol (nW nH : Nat) (d : Nat → Nat → Bool) (t : Nat) : Nat := cnt (hit nW nH d t nH) 128
theorem asd_le : ∀ t, t < 13 → ∀ k, k < 40 → asd t k ≤ 59 := by decide +kernel
theorem asd_0 : ∀ t, t < 13 → ∀ k, k < 40 →
    (0 ≤ ((sv t * nI k) ^^^ 8) → 30 + (sv t * nI k) / 8 = nI (asd t k)) ∧
    (¬ 0 ≤ ((sv t * nI k) ^^^ 8) → (((sv t * nI k) / 8 * 8 = sv t * nI k → 30 + (sv t * nI k) / 8 = nI (asd t k)) ∧ (¬ (sv t * nI k) / 8 * 8 = sv t * nI k → 30 + ((sv t * nI k) / 8 - 1) = nI (asd t k)))) := by decide +kernel
theorem asd_1 : ∀ t, t < 13 → ∀ k, k < 40 → (sv t * nI k < 0 → -((7 - sv t * nI k) / 8) = nI (asd t k) - 30) ∧ (¬ sv t * nI k < 0 → (sv t * nI k) / 8 = nI (asd t k) - 30) := by decide +kernel
theorem ok_shift {t k : Nat} (ht : t < 13) (hk : k < 40) {Post : Int32 → Prop} (hp : ∀ r : Int32, 30 + r = nI (asd t k) → Post r) : wJ9_floorDiv_7cf53 (sv t * nI k) 8 Post := by
  obtain ⟨a1, a2⟩ := asd_0 t ht k hk
  unfold wJ9_floorDiv_7cf53
  refine ⟨by decide, fun x ex => ?_⟩
  subst ex
  exact br_c (fun c => hp _ (a1 c)) (fun c => br_c (fun c2 => hp _ ((a2 c).1 c2)) (fun c2 => hp _ ((a2 c).2 c2)))
theorem dec_cnt (f : Nat → Bool) (i : Nat) : decide (0 < cnt f (i + 1)) = (decide (0 < cnt f i) || f i) := by
  show decide (0 < cnt f i + (if f i then 1 else 0)) = _
  cases f i with
  | false => simp
  | true => simp
theorem ok0_sheared {nW nH : Nat} {d : Nat → Nat → Bool} {cols rows : Nat → Int64} (hs : szs nW nH) (h : hld0 nW nH d cols rows) {t : Nat} (ht : t < 13) {Post : Int32 → Prop} (hp : Post (nI (nCol nW nH d t))) : wX0_shearedColumns nH rows (sv t) Post := by
  obtain ⟨h1, h2, h3, h4⟩ := id hs
  unfold wX0_shearedColumns
  refine pk_loop (fun n i (m : Int64 × Int64) => lX0_shearedColumns_8 nH rows (sv t) Post n m.1 m.2 (nI i)) (fun i m => (∀ c, c < 64 → lb m.1 c = hit nW nH d t i c) ∧ (∀ c, c < 64 → lb m.2 c = hit nW nH d t i (64 + c))) nH 0 (0, 0) (Nat.zero_le _) ⟨fun c _ => lb_0 c, fun c _ => lb_0 c⟩ ?_ ?_
  · intro n m hI
    show bX0_shearedColumns_8 nH rows (sv t) Post (lX0_shearedColumns_8 nH rows (sv t) Post n) m.1 m.2 (nI nH)
    unfold bX0_shearedColumns_8
    refine br_t (nI_le (Nat.le_refl _) (by omega)) (ok_bitCount (ok_bitCount ?_))
    rw [nI_add]
    have e : pop m.1 + pop m.2 = nCol nW nH d t := by
      unfold nCol pop
      rw [show (128 : Nat) = 64 + 64 from rfl, cnt_add, cnt_congr (fun i hi => hI.1 i hi), cnt_congr (fun i hi => hI.2 i hi)]
    rw [e]
    exact hp
  · intro n i m hi hI ih
    show bX0_shearedColumns_8 nH rows (sv t) Post (lX0_shearedColumns_8 nH rows (sv t) Post n) m.1 m.2 (nI i)
    unfold bX0_shearedColumns_8
    rw [show (nI nH - 1 - nI i : Int32) = nI (nH - 1 - i) by rw [show (1 : Int32) = nI 1 from rfl, pk_sub h3, pk_sub (by omega)]]
    have ha := asd_le t ht (nH - 1 - i) (by omega)
    refine br_f (nI_ge hi (by omega)) (ok_shift ht (by omega) (fun r er => ?_))
    intro x7 e7
    rw [er] at e7
    subst e7
    refine ⟨i, rfl, hi, by omega, ?_⟩
    intro y1 e1
    refine ⟨i, rfl, hi, by omega, ?_⟩
    intro y2 e2
    rw [i1]
    refine ih (y1, y2) ⟨fun c hc => ?_, fun c hc => ?_⟩
    · show lb y1 c = _
      rw [e1, lb_or, hI.1 c hc, lb_shl _ (by omega) hc, h.2 i hi]
      exact (dec_cnt (hyt nW nH d t c) i).symm
    · show lb y2 c = _
      rw [show (63 : Int32) = nI 63 from rfl, pk_sub (by omega), show (1 : Int32) = nI 1 from rfl] at e2
      rw [e2, lb_or, hI.2 c hc, lb_ushr _ (by omega), lb_ushr _ (by decide), h.2 i hi, show 1 + (63 - asd t (nH - 1 - i) + c) = 64 + c - asd t (nH - 1 - i) by omega]
      have e3 := dec_cnt (hyt nW nH d t (64 + c)) i
      unfold hit
      rw [e3]
      unfold hyt
      rw [decide_eq_true (show asd t (nH - 1 - i) ≤ 64 + c by omega), Bool.true_and]
/-! the reference looks at each column from -60 to 119 -/
theorem sub60 : ∀ a, a < 60 → ∀ i, i < 180 → (nI i - 60) - (nI a - 30) = nI i - nI (30 + a) := by decide +kernel
theorem add60 (i : Nat) : (nI i - 60) + 1 = nI (i + 1) - 60 := by
  rw [Int32.sub_eq_add_neg, Int32.sub_eq_add_neg, Int32.add_assoc, Int32.add_comm (-60) 1, ← Int32.add_assoc, i1]
theorem ge120 : ∀ i, i < 181 → (120 ≤ nI i - 60 ↔ i = 180) := by decide +kernel
def hyr (nW nH : Nat) (d : Nat → Nat → Bool) (t i y : Nat) : Bool := decide (30 + asd t (nH - 1 - y) ≤ i) && (decide (i - (30 + asd t (nH - 1 - y)) < nW) && d (i - (30 + asd t (nH - 1 - y))) y)
def hir (nW nH : Nat) (d : Nat → Nat → Bool) (t j i : Nat) : Bool := decide (0 < cnt (hyr nW nH d t i) j)
theorem hir_mono {nW nH : Nat} {d : Nat → Nat → Bool} {t j i : Nat} (hj : j ≤ nH) (h : hir nW nH d t j i = true) : hir nW nH d t nH i = true := by
  unfold hir at *
  rw [decide_eq_true_iff] at *
  have := cnt_mono_n (hyr nW nH d t i) hj
  omega
theorem nCol_r {nW nH : Nat} (d : Nat → Nat → Bool) (hs : szs nW nH) {t : Nat} (ht : t < 13) : cnt (hir nW nH d t nH) 180 = nCol nW nH d t := by
  obtain ⟨h1, h2, h3, h4⟩ := hs
  have z : ∀ i, i < 30 ∨ 150 ≤ i → hir nW nH d t nH i = false := fun i hi => by
    unfold hir
    rw [decide_eq_false_iff_not, cnt_false (fun y hy => ?_)]
    · exact Nat.lt_irrefl 0
    · have := asd_le t ht (nH - 1 - y) (by omega)
      unfold hyr
      by_cases c : 30 + asd t (nH - 1 - y) ≤ i
      · rw [decide_eq_false (show ¬ i - (30 + asd t (nH - 1 - y)) < nW by omega)]
        simp
      · rw [decide_eq_false c]
        rfl
  have e1 : cnt (hir nW nH d t nH) 180 = cnt (hir nW nH d t nH) (30 + 128) := cnt_trim (by decide) (fun i hi _ => z i (Or.inr (by omega)))
  rw [e1, cnt_add, cnt_false (fun i hi => z i (Or.inl hi)), Nat.zero_add]
  refine cnt_congr (fun c hc => ?_)
  unfold hir hit
  have : cnt (hyr nW nH d t (30 + c)) nH = cnt (hyt nW nH d t c) nH := cnt_congr (fun y hy => by
    unfold hyr hyt
    rw [show decide (30 + asd t (nH - 1 - y) ≤ 30 + c) = decide (asd t (nH - 1 - y) ≤ c) from decide_eq_decide.mpr (by omega), show 30 + c - (30 + asd t (nH - 1 - y)) = c - asd t (nH - 1 - y) by omega])
  rw [this]
theorem ok1_columns {nW nH : Nat} {d : Nat → Nat → Bool} {dk : Nat → Int32} (hs : szs nW nH) (h : hld1 nW nH d dk) {t : Nat} (ht : t < 13) {Post : Int32 → Prop} (hp : Post (nI (nCol nW nH d t))) : wX1_columns nW nH dk (sv t) Post := by
  obtain ⟨h1, h2, h3, h4⟩ := id hs
  unfold wX1_columns
  refine pk_loop (fun n i (_ : Unit) => lX1_columns_5 nW nH dk (sv t) Post n (nI (cnt (hir nW nH d t nH) i)) (nI i - 60)) (fun i _ => True) 180 0 () (Nat.zero_le _) trivial ?_ ?_
  · intro n _ _
    show bX1_columns_5 nW nH dk (sv t) Post (lX1_columns_5 nW nH dk (sv t) Post n) _ (nI 180 - 60)
    unfold bX1_columns_5
    refine br_t (by decide) ?_
    rw [nCol_r d hs ht]
    exact hp
  · intro n i _ hi _ ih
    show bX1_columns_5 nW nH dk (sv t) Post (lX1_columns_5 nW nH dk (sv t) Post n) _ (nI i - 60)
    unfold bX1_columns_5
    refine br_f (fun q => by have := (ge120 i (by omega)).mp q; omega) ?_
    have ih := ih () trivial
    have fin : ∀ v : Int32, v = bI (hir nW nH d t nH i) → jX1_columns_112 nW nH dk (sv t) Post (lX1_columns_5 nW nH dk (sv t) Post n) (nI (cnt (hir nW nH d t nH) i)) (nI i - 60) v := fun v ev => by
      unfold jX1_columns_112
      subst ev
      have e : cnt (hir nW nH d t nH) (i + 1) = cnt (hir nW nH d t nH) i + (if hir nW nH d t nH i then 1 else 0) := rfl
      rw [e] at ih
      refine br_c (fun c => ?_) (fun c => ?_)
      · rw [bI_0] at c
        rw [c] at ih
        rw [add60]
        exact ih
      · rw [bI_0, Bool.not_eq_false] at c
        rw [c] at ih
        intro x ex
        subst ex
        rw [add60, i1]
        exact ih
    generalize lX1_columns_5 nW nH dk (sv t) Post n = r5 at fin
    refine pk_loop (fun n j (_ : Unit) => lX1_columns_17 nW nH dk (sv t) Post r5 n (nI (cnt (hir nW nH d t nH) i)) (nI i - 60) (bI (hir nW nH d t j i)) (nI j)) (fun j _ => True) nH 0 () (Nat.zero_le _) trivial ?_ ?_
    · intro n _ _
      show bX1_columns_17 nW nH dk (sv t) Post r5 (lX1_columns_17 nW nH dk (sv t) Post r5 n) _ _ _ (nI nH)
      unfold bX1_columns_17
      exact br_t (nI_le (Nat.le_refl _) (by omega)) (fin _ rfl)
    · intro n j _ hj _ ih2
      show bX1_columns_17 nW nH dk (sv t) Post r5 (lX1_columns_17 nW nH dk (sv t) Post r5 n) _ _ _ (nI j)
      unfold bX1_columns_17
      have ih2 := ih2 () trivial
      generalize lX1_columns_17 nW nH dk (sv t) Post r5 n = r17 at ih2
      rw [show (nI nH - 1 - nI j : Int32) = nI (nH - 1 - j) by rw [show (1 : Int32) = nI 1 from rfl, pk_sub h3, pk_sub (by omega)]]
      refine br_f (nI_ge hj (by omega)) (br_c (fun c => ?_) (fun c => ?_))
      · rw [bI_0] at c
        intro x6 e6
        have ha := asd_le t ht (nH - 1 - j) (by omega)
        obtain ⟨a1, a2⟩ := asd_1 t ht (nH - 1 - j) (by omega)
        rw [← e6] at a1 a2
        have go : jX1_columns_66 nW nH dk (sv t) Post r5 r17 (nI (cnt (hir nW nH d t nH) i)) (nI i - 60) (nI j) (nI (asd t (nH - 1 - j)) - 30) := by
          unfold jX1_columns_66
          rw [sub60 _ (by omega) i hi, i1]
          have e3 := dec_cnt (hyr nW nH d t i) j
          have e4 : hir nW nH d t (j + 1) i = hyr nW nH d t i j := by
            unfold hir at c ⊢
            rw [e3, c, Bool.false_or]
          rw [e4] at ih2
          unfold hyr at ih2
          refine br_c (fun c1 => ?_) (fun c1 => ?_)
          · have q : ¬ 30 + asd t (nH - 1 - j) ≤ i := fun q => by
              rw [pk_sub q] at c1
              exact nI_pos (by omega) c1
            rw [decide_eq_false q] at ih2
            exact ih2
          · have q : 30 + asd t (nH - 1 - j) ≤ i := by
              rcases Nat.lt_or_ge i (30 + asd t (nH - 1 - j)) with q | q
              · exact absurd (pk_sneg (by omega) q) c1
              · exact q
            rw [pk_sub q]
            rw [decide_eq_true q, Bool.true_and] at ih2
            refine br_c (fun c2 => ?_) (fun c2 => ?_)
            · rw [nI_leI (by omega) (by omega)] at c2
              rw [decide_eq_false (by omega)] at ih2
              exact ih2
            · rw [nI_leI (by omega) (by omega)] at c2
              rw [decide_eq_true (by omega), Bool.true_and] at ih2
              refine ok1_isDark hs h (by omega) hj ?_
              refine br_c (fun c3 => ?_) (fun c3 => ?_)
              · rw [bI_0] at c3
                rw [c3] at ih2
                exact ih2
              · rw [bI_0, Bool.not_eq_false] at c3
                rw [c3] at ih2
                exact ih2
        refine br_c (fun c1 => ?_) (fun c1 => ?_)
        · rw [a1 c1]
          exact go
        · rw [a2 c1]
          exact go
      · rw [bI_0, Bool.not_eq_false] at c
        refine fin _ ?_
        rw [c, hir_mono (by omega) c]
/-! the best of them -/
def sl1 (p : Int32 × Nat) (b : Int32) (n : Nat) : Int32 × Nat := if n < p.2 then (b, n) else p
def slt (nW nH : Nat) (d : Nat → Nat → Bool) : Nat → Int32 × Nat
  | 0 => (0, nCol nW nH d 6)
  | s + 1 => sl1 (sl1 (slt nW nH d s) (-nI (s + 1)) (nCol nW nH d (5 - s))) (nI (s + 1)) (nCol nW nH d (7 + s))
def aSlant (nW nH : Nat) (d : Nat → Nat → Bool) : Int32 := (slt nW nH d 6).1
theorem nCol_le (nW nH : Nat) (d : Nat → Nat → Bool) (t : Nat) : nCol nW nH d t ≤ 128 := cnt_le _ _
theorem sl1_le {p : Int32 × Nat} (b : Int32) {n m : Nat} (hp : p.2 ≤ m) (hn : n ≤ m) : (sl1 p b n).2 ≤ m := by
  unfold sl1
  by_cases c : n < p.2
  · rw [if_pos c]
    exact hn
  · rw [if_neg c]
    exact hp
theorem slt_le (nW nH : Nat) (d : Nat → Nat → Bool) : ∀ s, (slt nW nH d s).2 ≤ 128
  | 0 => nCol_le _ _ _ _
  | s + 1 => sl1_le _ (sl1_le _ (slt_le nW nH d s) (nCol_le nW nH d (5 - s))) (nCol_le nW nH d (7 + s))
theorem sv_neg : ∀ s, s < 6 → -nI (s + 1) = sv (5 - s) := by decide +kernel
theorem sv_pos : ∀ s, s < 6 → nI (s + 1) = sv (7 + s) := by decide +kernel
theorem ok0_slant {nW nH : Nat} {d : Nat → Nat → Bool} {cols rows : Nat → Int64} (hs : szs nW nH) (h : hld0 nW nH d cols rows) {Post : Int32 → Prop} (hp : Post (aSlant nW nH d)) : wX0_slant nH rows Post := by
  obtain ⟨h1, h2, h3, h4⟩ := id hs
  unfold wX0_slant
  rw [show (0 : Int32) = sv 6 from by decide]
  refine ok0_sheared hs h (by decide) ?_
  rw [show sv 6 = (0 : Int32) from by decide]
  refine pk_loop (fun n i (_ : Unit) => lX0_slant_10 nH rows Post n (slt nW nH d i).1 (nI (slt nW nH d i).2) (nI (i + 1))) (fun i _ => True) 6 0 () (by decide) trivial ?_ ?_
  · intro n _ _
    show bX0_slant_10 nH rows Post (lX0_slant_10 nH rows Post n) _ _ (nI 7)
    unfold bX0_slant_10
    exact br_t (by decide) hp
  · intro n i _ hi _ ih
    have ih := ih () trivial
    show bX0_slant_10 nH rows Post (lX0_slant_10 nH rows Post n) _ _ (nI (i + 1))
    unfold bX0_slant_10
    have b0 := slt_le nW nH d i
    have b1 := nCol_le nW nH d (5 - i)
    have b2 := nCol_le nW nH d (7 + i)
    refine br_f (fun q => by rw [show (6 : Int32) = nI 6 from rfl, nI_ltI (by decide) (by omega)] at q; omega) ?_
    have second : ∀ (b : Int32) (k : Nat), sl1 (slt nW nH d i) (-nI (i + 1)) (nCol nW nH d (5 - i)) = (b, k) → k ≤ 128 → jX0_slant_36 nH rows Post (lX0_slant_10 nH rows Post n) b (nI k) (nI (i + 1)) := fun b k e hk => by
      have e2 : slt nW nH d (i + 1) = sl1 (b, k) (nI (i + 1)) (nCol nW nH d (7 + i)) := by
        rw [← e]
        rfl
      rw [e2] at ih
      unfold sl1 at ih
      unfold jX0_slant_36
      have key : wX0_shearedColumns nH rows (sv (7 + i)) (fun r_3 => ((nI k ≤ r_3 → lX0_slant_10 nH rows Post n b (nI k) (nI (i + 1) + 1)) ∧ (¬ nI k ≤ r_3 → lX0_slant_10 nH rows Post n (nI (i + 1)) r_3 (nI (i + 1) + 1)))) := by
        refine ok0_sheared hs h (by omega) ?_
        refine br_c (fun c => ?_) (fun c => ?_)
        · rw [nI_leI (by omega) (by omega)] at c
          rw [if_neg (by show ¬ _ < k; omega)] at ih
          rw [i1]
          exact ih
        · rw [nI_leI (by omega) (by omega)] at c
          rw [if_pos (by show _ < k; omega)] at ih
          rw [i1]
          exact ih
      rw [← sv_pos i hi] at key
      exact key
    have key : wX0_shearedColumns nH rows (sv (5 - i)) (fun r_2 => ((nI (slt nW nH d i).2 ≤ r_2 → jX0_slant_36 nH rows Post (lX0_slant_10 nH rows Post n) (slt nW nH d i).1 (nI (slt nW nH d i).2) (nI (i + 1))) ∧ (¬ nI (slt nW nH d i).2 ≤ r_2 → ∀ x1_4 : Int32, x1_4 = (-nI (i + 1)) → jX0_slant_36 nH rows Post (lX0_slant_10 nH rows Post n) x1_4 r_2 (nI (i + 1))))) := by
      refine ok0_sheared hs h (by omega) ?_
      refine br_c (fun c => ?_) (fun c => ?_)
      · rw [nI_leI (by omega) (by omega)] at c
        refine second _ _ ?_ b0
        unfold sl1
        rw [if_neg (by omega)]
      · rw [nI_leI (by omega) (by omega)] at c
        intro x ex
        subst ex
        refine second _ _ ?_ b1
        unfold sl1
        rw [if_pos (by omega)]
    rw [← sv_neg i hi] at key
    exact key
theorem ok1_slant {nW nH : Nat} {d : Nat → Nat → Bool} {dk : Nat → Int32} (hs : szs nW nH) (h : hld1 nW nH d dk) {th : Int32} {Post : Int32 → Int32 → Prop} (hp : Post (aSlant nW nH d) 0) : wX1_slant nW nH dk th Post := by
  obtain ⟨h1, h2, h3, h4⟩ := id hs
  unfold wX1_slant
  have first : wX1_columns nW nH dk (sv 6) (fun r_1 => ∃ n : Nat, lX1_slant_15 nW nH dk Post n 0 r_1 1 0) := by
    refine ok1_columns hs h (by decide) ?_
    refine pk_loop (fun n i (_ : Unit) => lX1_slant_15 nW nH dk Post n (slt nW nH d i).1 (nI (slt nW nH d i).2) (nI (i + 1)) 0) (fun i _ => True) 6 0 () (by decide) trivial ?_ ?_
    · intro n _ _
      show bX1_slant_15 nW nH dk Post (lX1_slant_15 nW nH dk Post n) _ _ (nI 7) 0
      unfold bX1_slant_15
      exact br_t (by decide) hp
    · intro n i _ hi _ ih
      have ih := ih () trivial
      show bX1_slant_15 nW nH dk Post (lX1_slant_15 nW nH dk Post n) _ _ (nI (i + 1)) 0
      unfold bX1_slant_15
      have b0 := slt_le nW nH d i
      have b1 := nCol_le nW nH d (5 - i)
      have b2 := nCol_le nW nH d (7 + i)
      refine br_f (fun q => by rw [show (7 : Int32) = nI 7 from rfl, nI_leI (by decide) (by omega)] at q; omega) ?_
      have second : ∀ (b : Int32) (k : Nat), sl1 (slt nW nH d i) (-nI (i + 1)) (nCol nW nH d (5 - i)) = (b, k) → k ≤ 128 → jX1_slant_54 nW nH dk Post (lX1_slant_15 nW nH dk Post n) b (nI (i + 1)) (nI k) 0 := fun b k e hk => by
        have e2 : slt nW nH d (i + 1) = sl1 (b, k) (nI (i + 1)) (nCol nW nH d (7 + i)) := by
          rw [← e]
          rfl
        rw [e2] at ih
        unfold sl1 at ih
        unfold jX1_slant_54
        have key : wX1_columns nW nH dk (sv (7 + i)) (fun r_3 => ((nI k ≤ r_3 → jX1_slant_73 nW nH dk Post (lX1_slant_15 nW nH dk Post n) (nI k) (nI (i + 1)) r_3 b 0) ∧ (¬ nI k ≤ r_3 → jX1_slant_73 nW nH dk Post (lX1_slant_15 nW nH dk Post n) (nI k) (nI (i + 1)) r_3 (nI (i + 1)) 0))) := by
          refine ok1_columns hs h (by omega) ?_
          unfold jX1_slant_73
          rw [i1]
          refine br_c (fun c => br_t c ?_) (fun c => br_f c ?_)
          · rw [nI_leI (by omega) (by omega)] at c
            rw [if_neg (by show ¬ _ < k; omega)] at ih
            exact ih
          · rw [nI_leI (by omega) (by omega)] at c
            rw [if_pos (by show _ < k; omega)] at ih
            exact ih
        rw [← sv_pos i hi] at key
        exact key
      have key : wX1_columns nW nH dk (sv (5 - i)) (fun r_2 => ((nI (slt nW nH d i).2 ≤ r_2 → jX1_slant_41 nW nH dk Post (lX1_slant_15 nW nH dk Post n) (nI (slt nW nH d i).2) (nI (i + 1)) r_2 (slt nW nH d i).1 0) ∧ (¬ nI (slt nW nH d i).2 ≤ r_2 → jX1_slant_41 nW nH dk Post (lX1_slant_15 nW nH dk Post n) (nI (slt nW nH d i).2) (nI (i + 1)) r_2 (-nI (i + 1)) 0))) := by
        refine ok1_columns hs h (by omega) ?_
        unfold jX1_slant_41
        refine br_c (fun c => br_t c ?_) (fun c => br_f c ?_)
        · rw [nI_leI (by omega) (by omega)] at c
          refine second _ _ ?_ b0
          unfold sl1
          rw [if_neg (by omega)]
        · rw [nI_leI (by omega) (by omega)] at c
          refine second _ _ ?_ b1
          unfold sl1
          rw [if_pos (by omega)]
      rw [← sv_neg i hi] at key
      exact key
  have e : sv 6 = (0 : Int32) := by decide
  rw [e] at first
  exact first
