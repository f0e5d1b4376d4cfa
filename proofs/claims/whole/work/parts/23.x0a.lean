/-! ===== the class's reading methods answer what the words say ===== -/
theorem i1 (n : Nat) : nI n + 1 = nI (n + 1) := nI_1 n
theorem m1 (n : Nat) : nI (n + 1) - 1 = nI n := nI_pred n
theorem am1 (x : Int32) : x + (-1) = x - 1 := by rw [Int32.sub_eq_add_neg]
theorem cols_ne0 {nW nH : Nat} {d : Nat → Nat → Bool} {cols rows : Nat → Int64} (hs : szs nW nH) (h : hld0 nW nH d cols rows) {x : Nat} (hx : x < nW) : ¬ cols x = 0 ↔ cD nH d x = true := by
  obtain ⟨-, -, -, h4⟩ := hs
  rw [lb_ne0, cD_iff]
  constructor
  · intro ⟨i, hi, e⟩
    rw [h.1 x hx i] at e
    simp only [Bool.and_eq_true, decide_eq_true_eq] at e
    exact ⟨i, e.1, e.2⟩
  · intro ⟨y, hy, e⟩
    refine ⟨y, by omega, ?_⟩
    rw [h.1 x hx y, e, decide_eq_true hy]
    rfl
theorem cols_eq0 {nW nH : Nat} {d : Nat → Nat → Bool} {cols rows : Nat → Int64} (hs : szs nW nH) (h : hld0 nW nH d cols rows) {x : Nat} (hx : x < nW) : cols x = 0 ↔ cD nH d x = false := by
  have := cols_ne0 hs h hx
  cases e : cD nH d x with
  | false =>
    rw [e] at this
    refine ⟨fun _ => rfl, fun _ => Classical.byContradiction (fun q => ?_)⟩
    have := this.mp q
    cases this
  | true =>
    rw [e] at this
    exact ⟨fun q => absurd q (this.mpr rfl), fun q => by cases q⟩
def ansF (nW nH : Nat) (d : Nat → Nat → Bool) : Int32 := if fFrom nW nH d < nW then nI (fFrom nW nH d) else -1
theorem ok0_firstDark {nW nH : Nat} {d : Nat → Nat → Bool} {cols rows : Nat → Int64} (hs : szs nW nH) (h : hld0 nW nH d cols rows) {Post : Int32 → Prop} (hp : Post (ansF nW nH d)) : wX0_firstDarkColumn nW cols Post := by
  obtain ⟨h1, h2, h3, h4⟩ := id hs
  unfold wX0_firstDarkColumn
  refine pk_loop (fun n i (_ : Unit) => lX0_firstDarkColumn_2 nW cols Post n (nI i)) (fun i _ => ∀ j, j < i → cD nH d j = false) nW 0 () (Nat.zero_le _) (fun j hj => absurd hj (Nat.not_lt_zero j)) ?_ ?_
  · intro n _ hI
    show bX0_firstDarkColumn_2 nW cols Post (lX0_firstDarkColumn_2 nW cols Post n) (nI nW)
    unfold bX0_firstDarkColumn_2
    refine br_t (nI_le (Nat.le_refl _) (by omega)) ?_
    have e : fFrom nW nH d = nW := fst_none hI
    unfold ansF at hp
    rw [e, if_neg (Nat.lt_irrefl _)] at hp
    exact hp
  · intro n i _ hi hI ih
    show bX0_firstDarkColumn_2 nW cols Post (lX0_firstDarkColumn_2 nW cols Post n) (nI i)
    unfold bX0_firstDarkColumn_2
    refine br_f (nI_ge hi (by omega)) ⟨i, rfl, hi, by omega, ?_⟩
    refine br_c (fun c => ?_) (fun c => ?_)
    · rw [lg_cmp_eq, cols_eq0 hs h hi] at c
      rw [i1]
      exact ih () (lt_s hI c)
    · rw [lg_cmp_eq, cols_ne0 hs h hi] at c
      have e : fFrom nW nH d = i := fst_eq hi c hI
      unfold ansF at hp
      rw [e, if_pos hi] at hp
      exact hp
def ansL (nW nH : Nat) (d : Nat → Nat → Bool) : Int32 := nI (fUntil nW nH d) - 1
theorem ok0_lastDark {nW nH : Nat} {d : Nat → Nat → Bool} {cols rows : Nat → Int64} (hs : szs nW nH) (h : hld0 nW nH d cols rows) {Post : Int32 → Prop} (hp : Post (ansL nW nH d)) : wX0_lastDarkColumn nW cols Post := by
  obtain ⟨h1, h2, h3, h4⟩ := id hs
  unfold wX0_lastDarkColumn
  intro x ex
  subst ex
  refine ⟨nW + 1, ?_⟩
  refine pk_loopD (fun n i (_ : Unit) => i ≤ nW → lX0_lastDarkColumn_7 nW cols Post n (nI i - 1)) (fun i _ => ∀ j, i ≤ j → j < nW → cD nH d j = false) ?_ ?_ nW () (fun j hj hj2 => by omega) (Nat.le_refl _)
  · intro n _ hI _
    show bX0_lastDarkColumn_7 nW cols Post (lX0_lastDarkColumn_7 nW cols Post n) (nI 0 - 1)
    unfold bX0_lastDarkColumn_7
    refine br_t (by decide) ?_
    have e : fUntil nW nH d = 0 := lst_none (fun j hj => hI j (Nat.zero_le j) hj)
    unfold ansL at hp
    rw [e] at hp
    exact hp
  · intro n i _ hI ih hi
    show bX0_lastDarkColumn_7 nW cols Post (lX0_lastDarkColumn_7 nW cols Post n) (nI (i + 1) - 1)
    rw [m1]
    unfold bX0_lastDarkColumn_7
    refine br_f (nI_pos (by omega)) ⟨i, rfl, by omega, by omega, ?_⟩
    refine br_c (fun c => ?_) (fun c => ?_)
    · rw [lg_cmp_eq, cols_eq0 hs h (by omega)] at c
      have := ih () (fun j hj hj2 => by
        by_cases e : j = i
        · rw [e]; exact c
        · exact hI j (by omega) hj2) (by omega)
      rw [am1]
      exact this
    · rw [lg_cmp_eq, cols_ne0 hs h (by omega)] at c
      have e : fUntil nW nH d = i + 1 := lst_eq (by omega) c (fun j hj hj2 => hI j (by omega) hj2)
      unfold ansL at hp
      rw [e, m1] at hp
      exact hp
theorem pop_row {nW nH : Nat} {d : Nat → Nat → Bool} {cols rows : Nat → Int64} (hs : szs nW nH) (h : hld0 nW nH d cols rows) {y : Nat} (hy : y < nH) : pop (rows y) = rN nW d y := by
  obtain ⟨h1, h2, h3, h4⟩ := hs
  unfold pop rN
  rw [cnt_trim (m := nW) (by omega) (fun i hi _ => by rw [h.2 y hy i, decide_eq_false (by omega)]; rfl)]
  exact cnt_congr (fun i hi => by rw [h.2 y hy i, decide_eq_true hi]; rfl)
theorem ok0_darkInRow {nW nH : Nat} {d : Nat → Nat → Bool} {cols rows : Nat → Int64} (hs : szs nW nH) (h : hld0 nW nH d cols rows) {y : Nat} (hy : y < nH) {Post : Int32 → Prop} (hp : Post (nI (rN nW d y))) : wX0_darkInRow nH rows (nI y) Post := by
  obtain ⟨h1, h2, h3, h4⟩ := id hs
  refine ⟨y, rfl, hy, by omega, ok_bitCount ?_⟩
  rw [pop_row hs h hy]
  exact hp
theorem zMax_nI {a b : Nat} (ha : a < 2 ^ 31) (hb : b < 2 ^ 31) : zMax (nI a) (nI b) = nI (if a < b then b else a) := by
  unfold zMax
  by_cases c : a < b
  · rw [if_pos c, if_pos ((nI_ltI ha hb).mpr c)]
  · rw [if_neg c, if_neg (fun q => c ((nI_ltI ha hb).mp q))]
theorem zMin_nI {a b : Nat} (ha : a < 2 ^ 31) (hb : b < 2 ^ 31) : zMin (nI a) (nI b) = nI (if b < a then b else a) := by
  unfold zMin
  by_cases c : b < a
  · rw [if_pos c, if_pos ((nI_ltI hb ha).mpr c)]
  · rw [if_neg c, if_neg (fun q => c ((nI_ltI hb ha).mp q))]
theorem ok0_mostDark {nW nH : Nat} {d : Nat → Nat → Bool} {cols rows : Nat → Int64} (hs : szs nW nH) (h : hld0 nW nH d cols rows) {Post : Int32 → Prop} (hp : Post (nI (rM nW nH d))) : wX0_mostDarkInARow nH rows Post := by
  obtain ⟨h1, h2, h3, h4⟩ := id hs
  unfold wX0_mostDarkInARow
  refine pk_loop (fun n i (_ : Unit) => lX0_mostDarkInARow_4 nH rows Post n (nI (mx (rN nW d) i)) (nI i)) (fun i _ => True) nH 0 () (Nat.zero_le _) trivial ?_ ?_
  · intro n _ hI
    show bX0_mostDarkInARow_4 nH rows Post (lX0_mostDarkInARow_4 nH rows Post n) _ (nI nH)
    unfold bX0_mostDarkInARow_4
    exact br_t (nI_le (Nat.le_refl _) (by omega)) hp
  · intro n i _ hi hI ih
    show bX0_mostDarkInARow_4 nH rows Post (lX0_mostDarkInARow_4 nH rows Post n) _ (nI i)
    unfold bX0_mostDarkInARow_4
    refine br_f (nI_ge hi (by omega)) (ok0_darkInRow hs h hi ?_)
    intro x ex
    have b1 := rN_le nW d i
    have b2 : mx (rN nW d) i ≤ nW := mx_le (fun j _ => rN_le nW d j)
    rw [zMax_nI (by omega) (by omega)] at ex
    subst ex
    rw [i1]
    exact ih () trivial
theorem ok0_firstStrong {nW nH : Nat} {d : Nat → Nat → Bool} {cols rows : Nat → Int64} (hs : szs nW nH) (h : hld0 nW nH d cols rows) {Post : Int32 → Prop} (hp : Post (nI (fMid nW nH d))) : wX0_firstStrongRow nH rows Post := by
  obtain ⟨h1, h2, h3, h4⟩ := id hs
  unfold wX0_firstStrongRow
  refine ok0_mostDark hs h ?_
  have bM := rM_le nW nH d
  refine pk_loop (fun n i (_ : Unit) => lX0_firstStrongRow_7 nH rows Post n (nI (rM nW nH d)) (nI i)) (fun i _ => ∀ j, j < i → sR nW nH d j = false) nH 0 () (Nat.zero_le _) (fun j hj => absurd hj (Nat.not_lt_zero j)) ?_ ?_
  · intro n _ hI
    obtain ⟨q1, q2⟩ := fMid_lt (nW := nW) d h3
    rw [hI _ q1] at q2
    cases q2
  · intro n i _ hi hI ih
    show bX0_firstStrongRow_7 nH rows Post (lX0_firstStrongRow_7 nH rows Post n) _ (nI i)
    unfold bX0_firstStrongRow_7
    have b1 := rN_le nW d i
    refine br_f (nI_ge hi (by omega)) (ok0_darkInRow hs h hi ?_)
    rw [show (2 : Int32) = nI 2 from rfl, pk_mul]
    refine br_c (fun c => ?_) (fun c => ?_)
    · rw [nI_ltI (by omega) (by omega)] at c
      rw [i1]
      exact ih () (lt_s hI (by unfold sR; rw [decide_eq_false_iff_not]; omega))
    · rw [nI_ltI (by omega) (by omega)] at c
      have e : fMid nW nH d = i := fst_eq hi (by unfold sR; rw [decide_eq_true_iff]; omega) hI
      rw [e] at hp
      exact hp
theorem ok0_lastStrong {nW nH : Nat} {d : Nat → Nat → Bool} {cols rows : Nat → Int64} (hs : szs nW nH) (h : hld0 nW nH d cols rows) {Post : Int32 → Prop} (hp : Post (nI (fBas nW nH d))) : wX0_lastStrongRow nH rows Post := by
  obtain ⟨h1, h2, h3, h4⟩ := id hs
  unfold wX0_lastStrongRow
  refine ok0_mostDark hs h ?_
  have bM := rM_le nW nH d
  intro x ex
  subst ex
  refine ⟨nH + 1, ?_⟩
  refine pk_loopD (fun n i (_ : Unit) => i ≤ nH → lX0_lastStrongRow_12 nH rows Post n (nI (rM nW nH d)) (nI i - 1)) (fun i _ => ∀ j, i ≤ j → j < nH → sR nW nH d j = false) ?_ ?_ nH () (fun j hj hj2 => by omega) (Nat.le_refl _)
  · intro n _ hI _
    obtain ⟨q1, q2⟩ := fMid_lt (nW := nW) d h3
    rw [hI _ (Nat.zero_le _) q1] at q2
    cases q2
  · intro n i _ hI ih hi
    show bX0_lastStrongRow_12 nH rows Post (lX0_lastStrongRow_12 nH rows Post n) _ (nI (i + 1) - 1)
    rw [m1]
    unfold bX0_lastStrongRow_12
    have b1 := rN_le nW d i
    refine br_f (nI_pos (by omega)) (ok0_darkInRow hs h (by omega) ?_)
    rw [show (2 : Int32) = nI 2 from rfl, pk_mul]
    refine br_c (fun c => ?_) (fun c => ?_)
    · rw [nI_ltI (by omega) (by omega)] at c
      have := ih () (fun j hj hj2 => by
        by_cases e : j = i
        · rw [e]; unfold sR; rw [decide_eq_false_iff_not]; omega
        · exact hI j (by omega) hj2) (by omega)
      rw [am1]
      exact this
    · rw [nI_ltI (by omega) (by omega)] at c
      have e : lst (sR nW nH d) nH = i + 1 := lst_eq (by omega) (by unfold sR; rw [decide_eq_true_iff]; omega) (fun j hj hj2 => hI j (by omega) hj2)
      unfold fBas at hp
      rw [e] at hp
      exact hp
theorem ok0_due {nW nH : Nat} {d : Nat → Nat → Bool} {cols rows : Nat → Int64} (hs : szs nW nH) (h : hld0 nW nH d cols rows) {Post : Int32 → Prop} (hp : Post (nI (fDue nW nH d))) : wX0_dueWidth nH rows Post := by
  obtain ⟨h1, h2, h3, h4⟩ := id hs
  unfold wX0_dueWidth
  refine ok0_lastStrong hs h (ok0_firstStrong hs h ?_)
  obtain ⟨q1, q2, -⟩ := fBas_lt (nW := nW) d h3
  rw [pk_sub q2, show (3 : Int32) = nI 3 from rfl, show (4 : Int32) = nI 4 from rfl, show (2 : Int32) = nI 2 from rfl, pk_mul, pk_div (by omega) (by decide) (by decide), nI_add]
  exact hp
theorem pop_touch {nW nH : Nat} {d : Nat → Nat → Bool} {cols rows : Nat → Int64} (hs : szs nW nH) (h : hld0 nW nH d cols rows) {p : Nat} (hp : p < nW) : pop (cols (p - 1) &&& cols p) = tch nH d p := by
  obtain ⟨h1, h2, h3, h4⟩ := hs
  unfold pop tch
  rw [cnt_trim (m := nH) (by omega) (fun i hi _ => by rw [lb_and, h.1 p hp i, decide_eq_false (by omega), Bool.false_and, Bool.and_false])]
  exact cnt_congr (fun i hi => by rw [lb_and, h.1 (p - 1) (by omega) i, h.1 p hp i, decide_eq_true hi]; rfl)
theorem ok0_touch {nW nH : Nat} {d : Nat → Nat → Bool} {cols rows : Nat → Int64} (hs : szs nW nH) (h : hld0 nW nH d cols rows) {p : Nat} (hp1 : 1 ≤ p) (hp2 : p < nW) {Post : Int32 → Prop} (hp : Post (nI (tch nH d p))) : wX0_touch nW cols (nI p) Post := by
  obtain ⟨h1, h2, h3, h4⟩ := id hs
  unfold wX0_touch
  refine ⟨p - 1, ?_, by omega, by omega, p, rfl, hp2, by omega, ok_bitCount ?_⟩
  · rw [show (1 : Int32) = nI 1 from rfl, pk_sub hp1]
  · rw [pop_touch hs h hp2]
    exact hp
/-- the places between two that may be cut, as bits -/
def mC (nH : Nat) (d : Nat → Nat → Bool) (a b p : Nat) : Bool := decide (a < p) && (decide (p < b) && mayC nH d p)
def isMask (m : Int64) (f : Nat → Bool) : Prop := ∀ i, lb m i = f i
theorem tch_le (nH : Nat) (d : Nat → Nat → Bool) (p : Nat) : tch nH d p ≤ nH := cnt_le _ _
theorem ok0_places {nW nH : Nat} {d : Nat → Nat → Bool} {cols rows : Nat → Int64} (hs : szs nW nH) (h : hld0 nW nH d cols rows) {a b : Nat} (hb : b ≤ nW) (ha : a < nW) {Post : Int64 → Prop} (hp : ∀ m : Int64, isMask m (mC nH d a b) → Post m) : wX0_placesToCut nW cols (nI a) (nI b) Post := by
  obtain ⟨h1, h2, h3, h4⟩ := id hs
  unfold wX0_placesToCut
  intro x ex
  rw [i1] at ex
  subst ex
  rcases Nat.lt_or_ge b (a + 1) with hab | hab
  · refine ⟨1, ?_⟩
    show bX0_placesToCut_7 nW cols (nI a) (nI b) Post (lX0_placesToCut_7 nW cols (nI a) (nI b) Post 0) 0 (nI (a + 1))
    unfold bX0_placesToCut_7
    refine br_t (nI_le (by omega) (by omega)) (hp 0 (fun i => ?_))
    rw [lb_0]
    unfold mC
    by_cases c1 : a < i
    · rw [decide_eq_false (show ¬ i < b by omega)]
      simp
    · rw [decide_eq_false c1]
      rfl
  · refine pk_loop (fun n i (m : Int64) => lX0_placesToCut_7 nW cols (nI a) (nI b) Post n m (nI i)) (fun i m => a < i ∧ isMask m (mC nH d a i)) b (a + 1) 0 hab ?_ ?_ ?_
    · refine ⟨Nat.lt_succ_self a, fun i => ?_⟩
      rw [lb_0]
      unfold mC
      by_cases c1 : a < i
      · simp [show ¬ i < a + 1 by omega]
      · simp [c1]
    · intro n m hI
      show bX0_placesToCut_7 nW cols (nI a) (nI b) Post (lX0_placesToCut_7 nW cols (nI a) (nI b) Post n) m (nI b)
      unfold bX0_placesToCut_7
      exact br_t (nI_le (Nat.le_refl _) (by omega)) (hp m hI.2)
    · intro n i m hi hI ih
      show bX0_placesToCut_7 nW cols (nI a) (nI b) Post (lX0_placesToCut_7 nW cols (nI a) (nI b) Post n) m (nI i)
      obtain ⟨ia, hI⟩ := hI
      unfold bX0_placesToCut_7
      refine br_f (nI_ge hi (by omega)) ⟨i - 1, ?_, by omega, by omega, i, rfl, by omega, by omega, ?_⟩
      · rw [show (1 : Int32) = nI 1 from rfl, pk_sub (by omega)]
      have step : ∀ m' : Int64, isMask m' (mC nH d a (i + 1)) → lX0_placesToCut_7 nW cols (nI a) (nI b) Post n m' (nI i + 1) := fun m' hm => by
        rw [i1]
        exact ih m' ⟨by omega, hm⟩
      have keep : mayC nH d i = false → lX0_placesToCut_7 nW cols (nI a) (nI b) Post n m (nI i + 1) := fun hf => step m (fun p => by
        rw [hI p]
        unfold mC
        by_cases e : p = i
        · subst e
          rw [hf]
          simp
        · rw [show decide (p < i + 1) = decide (p < i) from decide_eq_decide.mpr (by omega)])
      have set : mayC nH d i = true → lX0_placesToCut_7 nW cols (nI a) (nI b) Post n (m ||| zShl 1 (nI i)) (nI i + 1) := fun ht => step _ (fun p => by
        rw [lb_or, hI p, lb_one i (by omega)]
        unfold mC
        by_cases e : p = i
        · subst e
          rw [ht]
          simp [ia]
        · rw [show decide (p < i + 1) = decide (p < i) from decide_eq_decide.mpr (by omega), decide_eq_false e, Bool.or_false])
      have beside : ¬ (cols (i - 1) ||| cols i) = 0 ↔ (cD nH d (i - 1) || cD nH d i) = true := by
        rw [Bool.or_eq_true, ← cols_ne0 hs h (show i - 1 < nW by omega), ← cols_ne0 hs h (show i < nW by omega), lb_ne0, lb_ne0, lb_ne0]
        constructor
        · intro ⟨j, hj, e⟩
          rw [lb_or, Bool.or_eq_true] at e
          rcases e with e | e
          · exact Or.inl ⟨j, hj, e⟩
          · exact Or.inr ⟨j, hj, e⟩
        · rintro (⟨j, hj, e⟩ | ⟨j, hj, e⟩)
          · exact ⟨j, hj, by rw [lb_or, e]; rfl⟩
          · exact ⟨j, hj, by rw [lb_or, e, Bool.or_true]⟩
      refine br_c (fun c => ?_) (fun c => ?_)
      · rw [lg_cmp_eq] at c
        unfold jX0_placesToCut_40
        refine br_t rfl (keep ?_)
        unfold mayC
        have : (cD nH d (i - 1) || cD nH d i) = false := by
          cases e : (cD nH d (i - 1) || cD nH d i) with
          | false => rfl
          | true => exact absurd c (beside.mpr e)
        rw [this, Bool.and_false]
      · rw [lg_cmp_eq, beside] at c
        unfold jX0_placesToCut_40
        refine br_f (by decide) (ok0_touch hs h (by omega) (by omega) ?_)
        have bt := tch_le nH d i
        rw [show (2 : Int32) = nI 2 from rfl, nI_ltI (by omega) (by omega)]
        refine br_c (fun c2 => keep ?_) (fun c2 => ?_)
        · unfold mayC
          rw [decide_eq_false (by omega)]
          rfl
        · intro x ex
          subst ex
          refine set ?_
          unfold mayC
          rw [c, decide_eq_true (by omega)]
          rfl
