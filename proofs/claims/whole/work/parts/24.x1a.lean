/-! ===== the reference's reading methods answer the same ===== -/
def bI (b : Bool) : Int32 := if b then 1 else 0
theorem bI_Z (b : Bool) : pZ (bI b) := by cases b <;> simp [bI, pZ]
theorem bI_0 {b : Bool} : bI b = 0 ↔ b = false := by cases b <;> simp [bI]
theorem ok1_isDark {nW nH : Nat} {d : Nat → Nat → Bool} {dk : Nat → Int32} (hs : szs nW nH) (h : hld1 nW nH d dk) {x y : Nat} (hx : x < nW) (hy : y < nH) {Post : Int32 → Prop} (hp : Post (bI (d x y))) : wX1_isDark dk (nI x) (nI y) Post := by
  obtain ⟨h1, h2, h3, h4⟩ := id hs
  refine ⟨60 * y + x, ?_, by omega, by omega, ?_⟩
  · rw [show (60 : Int32) = nI 60 from rfl, pk_mul, nI_add]
  · have e : dk (60 * y + x) = bI (d x y) := h x y hx hy
    show pZ (dk (60 * y + x)) ∧ Post (dk (60 * y + x))
    rw [e]
    exact ⟨bI_Z _, hp⟩
/-- by any int: outside there is nothing dark -/
theorem ok1_hasDark {nW nH : Nat} {d : Nat → Nat → Bool} {dk : Nat → Int32} (hs : szs nW nH) (h : hld1 nW nH d dk) {x : Nat} (hx : x < nW) {Post : Int32 → Prop} (hp : Post (bI (cD nH d x))) : wX1_hasDark nW nH dk (nI x) Post := by
  obtain ⟨h1, h2, h3, h4⟩ := id hs
  unfold wX1_hasDark
  refine pk_loop (fun n i (_ : Unit) => lX1_hasDark_4 nW nH dk (nI x) Post n (bI (cD i d x)) (nI i)) (fun i _ => True) nH 0 () (Nat.zero_le _) trivial ?_ ?_
  · intro n _ _
    show bX1_hasDark_4 nW nH dk (nI x) Post (lX1_hasDark_4 nW nH dk (nI x) Post n) _ (nI nH)
    unfold bX1_hasDark_4
    exact br_t (nI_le (Nat.le_refl _) (by omega)) ⟨bI_Z _, hp⟩
  · intro n i _ hi _ ih
    show bX1_hasDark_4 nW nH dk (nI x) Post (lX1_hasDark_4 nW nH dk (nI x) Post n) _ (nI i)
    unfold bX1_hasDark_4
    refine br_f (nI_ge hi (by omega)) (br_f (nI_pos (by omega)) (br_f (nI_ge hx (by omega)) ?_))
    have go : ∀ v : Int32, v = bI (cD (i + 1) d x) → lX1_hasDark_4 nW nH dk (nI x) Post n v (nI i + 1) := fun v e => by
      rw [i1, e]
      exact ih () trivial
    refine br_c (fun c => ok1_isDark hs h hx hi ?_) (fun c => go _ ?_)
    · rw [bI_0] at c
      have c0 : cnt (d x) i = 0 := by
        unfold cD at c
        rw [decide_eq_false_iff_not] at c
        omega
      refine br_c (fun c2 => go _ ?_) (fun c2 => go _ ?_)
      · rw [bI_0] at c2
        have : cD (i + 1) d x = false := by
          unfold cD
          rw [decide_eq_false_iff_not]
          show ¬ 0 < cnt (d x) i + _
          rw [c0, c2]
          decide
        rw [this]
        rfl
      · rw [bI_0, Bool.not_eq_false] at c2
        rw [cD_iff.mpr ⟨i, Nat.lt_succ_self i, c2⟩]
        rfl
    · rw [bI_0, Bool.not_eq_false] at c
      obtain ⟨y, hy, e⟩ := cD_iff.mp c
      rw [cD_iff.mpr ⟨y, Nat.lt_succ_of_lt hy, e⟩]
      rfl
theorem ok1_inRow {nW nH : Nat} {d : Nat → Nat → Bool} {dk : Nat → Int32} (hs : szs nW nH) (h : hld1 nW nH d dk) {y : Nat} (hy : y < nH) {Post : Int32 → Prop} (hp : Post (nI (rN nW d y))) : wX1_inRow nW dk (nI y) Post := by
  obtain ⟨h1, h2, h3, h4⟩ := id hs
  unfold wX1_inRow
  refine pk_loop (fun n i (_ : Unit) => lX1_inRow_4 nW dk (nI y) Post n (nI (rN i d y)) (nI i)) (fun i _ => True) nW 0 () (Nat.zero_le _) trivial ?_ ?_
  · intro n _ _
    show bX1_inRow_4 nW dk (nI y) Post (lX1_inRow_4 nW dk (nI y) Post n) _ (nI nW)
    unfold bX1_inRow_4
    exact br_t (nI_le (Nat.le_refl _) (by omega)) hp
  · intro n i _ hi _ ih
    show bX1_inRow_4 nW dk (nI y) Post (lX1_inRow_4 nW dk (nI y) Post n) _ (nI i)
    unfold bX1_inRow_4
    refine br_f (nI_ge hi (by omega)) (ok1_isDark hs h hi hy ?_)
    have ih := ih () trivial
    have e : rN (i + 1) d y = rN i d y + (if d i y then 1 else 0) := rfl
    rw [e] at ih
    refine br_c (fun c => ?_) (fun c => ?_)
    · rw [bI_0] at c
      rw [c] at ih
      rw [i1]
      exact ih
    · rw [bI_0, Bool.not_eq_false] at c
      rw [c] at ih
      intro x ex
      subst ex
      rw [i1, i1]
      exact ih
theorem ok1_mostInRow {nW nH : Nat} {d : Nat → Nat → Bool} {dk : Nat → Int32} (hs : szs nW nH) (h : hld1 nW nH d dk) {Post : Int32 → Prop} (hp : Post (nI (rM nW nH d))) : wX1_mostInRow nW nH dk Post := by
  obtain ⟨h1, h2, h3, h4⟩ := id hs
  unfold wX1_mostInRow
  refine pk_loop (fun n i (_ : Unit) => lX1_mostInRow_4 nW nH dk Post n (nI (mx (rN nW d) i)) (nI i)) (fun i _ => True) nH 0 () (Nat.zero_le _) trivial ?_ ?_
  · intro n _ _
    show bX1_mostInRow_4 nW nH dk Post (lX1_mostInRow_4 nW nH dk Post n) _ (nI nH)
    unfold bX1_mostInRow_4
    exact br_t (nI_le (Nat.le_refl _) (by omega)) hp
  · intro n i _ hi _ ih
    show bX1_mostInRow_4 nW nH dk Post (lX1_mostInRow_4 nW nH dk Post n) _ (nI i)
    unfold bX1_mostInRow_4
    have ih := ih () trivial
    have b1 := rN_le nW d i
    have b2 : mx (rN nW d) i ≤ nW := mx_le (fun j _ => rN_le nW d j)
    refine br_f (nI_ge hi (by omega)) (ok1_inRow hs h hi ?_)
    have e : mx (rN nW d) (i + 1) = if mx (rN nW d) i < rN nW d i then rN nW d i else mx (rN nW d) i := rfl
    rw [e] at ih
    refine br_c (fun c => ?_) (fun c => ok1_inRow hs h hi ?_)
    · rw [nI_leI (by omega) (by omega)] at c
      rw [if_neg (by omega)] at ih
      rw [i1]
      exact ih
    · rw [nI_leI (by omega) (by omega)] at c
      rw [if_pos (by omega)] at ih
      rw [i1]
      exact ih
theorem ok1_middle {nW nH : Nat} {d : Nat → Nat → Bool} {dk : Nat → Int32} (hs : szs nW nH) (h : hld1 nW nH d dk) {Post : Int32 → Prop} (hp : Post (nI (fMid nW nH d))) : wX1_middle nW nH dk Post := by
  obtain ⟨h1, h2, h3, h4⟩ := id hs
  unfold wX1_middle
  refine ok1_mostInRow hs h ?_
  have bM := rM_le nW nH d
  refine pk_loop (fun n i (_ : Unit) => lX1_middle_7 nW nH dk Post n (nI (rM nW nH d)) (nI i)) (fun i _ => ∀ j, j < i → sR nW nH d j = false) nH 0 () (Nat.zero_le _) (fun j hj => absurd hj (Nat.not_lt_zero j)) ?_ ?_
  · intro n _ hI
    obtain ⟨q1, q2⟩ := fMid_lt (nW := nW) d h3
    rw [hI _ q1] at q2
    cases q2
  · intro n i _ hi hI ih
    show bX1_middle_7 nW nH dk Post (lX1_middle_7 nW nH dk Post n) _ (nI i)
    unfold bX1_middle_7
    have b1 := rN_le nW d i
    refine ok1_inRow hs h hi ?_
    rw [show (2 : Int32) = nI 2 from rfl, pk_mul]
    refine br_c (fun c => ?_) (fun c => ?_)
    · rw [nI_leI (by omega) (by omega)] at c
      have e : fMid nW nH d = i := fst_eq hi (by unfold sR; rw [decide_eq_true_iff]; omega) hI
      rw [e] at hp
      exact hp
    · rw [nI_leI (by omega) (by omega)] at c
      rw [i1]
      exact ih () (lt_s hI (by unfold sR; rw [decide_eq_false_iff_not]; omega))
theorem ok1_baseline {nW nH : Nat} {d : Nat → Nat → Bool} {dk : Nat → Int32} (hs : szs nW nH) (h : hld1 nW nH d dk) {Post : Int32 → Prop} (hp : Post (nI (fBas nW nH d))) : wX1_baseline nW nH dk Post := by
  obtain ⟨h1, h2, h3, h4⟩ := id hs
  unfold wX1_baseline
  refine ok1_mostInRow hs h ?_
  have bM := rM_le nW nH d
  intro x ex
  subst ex
  refine ⟨nH + 1, ?_⟩
  refine pk_loopD (fun n i (_ : Unit) => i ≤ nH → lX1_baseline_12 nW nH dk Post n (nI (rM nW nH d)) (nI i - 1)) (fun i _ => ∀ j, i ≤ j → j < nH → sR nW nH d j = false) ?_ ?_ nH () (fun j hj hj2 => by omega) (Nat.le_refl _)
  · intro n _ hI _
    obtain ⟨q1, q2⟩ := fMid_lt (nW := nW) d h3
    rw [hI _ (Nat.zero_le _) q1] at q2
    cases q2
  · intro n i _ hI ih hi
    show bX1_baseline_12 nW nH dk Post (lX1_baseline_12 nW nH dk Post n) _ (nI (i + 1) - 1)
    rw [m1]
    unfold bX1_baseline_12
    have b1 := rN_le nW d i
    refine ok1_inRow hs h (by omega) ?_
    rw [show (2 : Int32) = nI 2 from rfl, pk_mul]
    refine br_c (fun c => ?_) (fun c => ?_)
    · rw [nI_leI (by omega) (by omega)] at c
      have e : lst (sR nW nH d) nH = i + 1 := lst_eq (by omega) (by unfold sR; rw [decide_eq_true_iff]; omega) (fun j hj hj2 => hI j (by omega) hj2)
      unfold fBas at hp
      rw [e] at hp
      exact hp
    · rw [nI_leI (by omega) (by omega)] at c
      have := ih () (fun j hj hj2 => by
        by_cases e : j = i
        · rw [e]; unfold sR; rw [decide_eq_false_iff_not]; omega
        · exact hI j (by omega) hj2) (by omega)
      rw [am1]
      exact this
/-- there is a dark spot -/
def hasD (nW nH : Nat) (d : Nat → Nat → Bool) : Prop := ∃ x, x < nW ∧ cD nH d x = true
theorem fFrom_lt {nW nH : Nat} {d : Nat → Nat → Bool} (h : hasD nW nH d) : fFrom nW nH d < nW ∧ cD nH d (fFrom nW nH d) = true ∧ fFrom nW nH d < fUntil nW nH d ∧ fUntil nW nH d ≤ nW ∧ cD nH d (fUntil nW nH d - 1) = true := by
  obtain ⟨x, hx, e⟩ := h
  have h1 : fFrom nW nH d ≤ x := fst_lt hx e
  have h2 := (fst_spec (cD nH d) nW).2 (show fst (cD nH d) nW < nW by unfold fFrom at h1; omega)
  have h3 : fFrom nW nH d < fUntil nW nH d := lst_gt (show fst (cD nH d) nW < nW by unfold fFrom at h1; omega) h2
  exact ⟨by omega, h2, h3, lst_le _ _, (lst_spec (cD nH d) nW).2 (by unfold fUntil at h3; omega)⟩
theorem ok1_from {nW nH : Nat} {d : Nat → Nat → Bool} {dk : Nat → Int32} (hs : szs nW nH) (h : hld1 nW nH d dk) (hd : hasD nW nH d) {Post : Int32 → Prop} (hp : Post (nI (fFrom nW nH d))) : wX1_from nW nH dk Post := by
  obtain ⟨h1, h2, h3, h4⟩ := id hs
  unfold wX1_from
  refine pk_loop (fun n i (_ : Unit) => lX1_from_2 nW nH dk Post n (nI i)) (fun i _ => ∀ j, j < i → cD nH d j = false) nW 0 () (Nat.zero_le _) (fun j hj => absurd hj (Nat.not_lt_zero j)) ?_ ?_
  · intro n _ hI
    obtain ⟨x, hx, e⟩ := hd
    rw [hI x hx] at e
    cases e
  · intro n i _ hi hI ih
    show bX1_from_2 nW nH dk Post (lX1_from_2 nW nH dk Post n) (nI i)
    unfold bX1_from_2
    refine ok1_hasDark hs h hi ?_
    refine br_c (fun c => ?_) (fun c => ?_)
    · rw [bI_0] at c
      rw [i1]
      exact ih () (lt_s hI c)
    · rw [bI_0, Bool.not_eq_false] at c
      have e : fFrom nW nH d = i := fst_eq hi c hI
      rw [e] at hp
      exact hp
theorem ok1_until {nW nH : Nat} {d : Nat → Nat → Bool} {dk : Nat → Int32} (hs : szs nW nH) (h : hld1 nW nH d dk) (hd : hasD nW nH d) {Post : Int32 → Prop} (hp : Post (nI (fUntil nW nH d))) : wX1_until nW nH dk Post := by
  obtain ⟨h1, h2, h3, h4⟩ := id hs
  unfold wX1_until
  intro x ex
  subst ex
  refine ⟨nW + 1, ?_⟩
  refine pk_loopD (fun n i (_ : Unit) => i ≤ nW → lX1_until_5 nW nH dk Post n (nI i)) (fun i _ => ∀ j, i ≤ j → j < nW → cD nH d j = false) ?_ ?_ nW () (fun j hj hj2 => by omega) (Nat.le_refl _)
  · intro n _ hI _
    obtain ⟨x, hx, e⟩ := hd
    rw [hI x (Nat.zero_le _) hx] at e
    cases e
  · intro n i _ hI ih hi
    show bX1_until_5 nW nH dk Post (lX1_until_5 nW nH dk Post n) (nI (i + 1))
    unfold bX1_until_5
    rw [m1]
    refine ok1_hasDark hs h (by omega) ?_
    refine br_c (fun c => ?_) (fun c => ?_)
    · rw [bI_0] at c
      rw [pk_m1]
      exact ih () (fun j hj hj2 => by
        by_cases e : j = i
        · rw [e]; exact c
        · exact hI j (by omega) hj2) (by omega)
    · rw [bI_0, Bool.not_eq_false] at c
      have e : fUntil nW nH d = i + 1 := lst_eq (by omega) c (fun j hj hj2 => hI j (by omega) hj2)
      rw [e] at hp
      exact hp
theorem ok1_due {nW nH : Nat} {d : Nat → Nat → Bool} {dk : Nat → Int32} (hs : szs nW nH) (h : hld1 nW nH d dk) {Post : Int32 → Prop} (hp : Post (nI (fDue nW nH d))) : wX1_due nW nH dk Post := by
  obtain ⟨h1, h2, h3, h4⟩ := id hs
  unfold wX1_due
  refine ok1_baseline hs h (ok1_middle hs h ?_)
  obtain ⟨q1, q2, -⟩ := fBas_lt (nW := nW) d h3
  rw [pk_sub q2, show (3 : Int32) = nI 3 from rfl, show (4 : Int32) = nI 4 from rfl, show (2 : Int32) = nI 2 from rfl, pk_mul, pk_div (by omega) (by decide) (by decide), nI_add, Nat.mul_comm 3]
  exact hp
theorem ok1_touch {nW nH : Nat} {d : Nat → Nat → Bool} {dk : Nat → Int32} (hs : szs nW nH) (h : hld1 nW nH d dk) {p : Nat} (hp1 : 1 ≤ p) (hp2 : p < nW) {Post : Int32 → Prop} (hp : Post (nI (tch nH d p))) : wX1_touch nH dk (nI p) Post := by
  obtain ⟨h1, h2, h3, h4⟩ := id hs
  unfold wX1_touch
  refine pk_loop (fun n i (_ : Unit) => lX1_touch_4 nH dk (nI p) Post n (nI (tch i d p)) (nI i)) (fun i _ => True) nH 0 () (Nat.zero_le _) trivial ?_ ?_
  · intro n _ _
    show bX1_touch_4 nH dk (nI p) Post (lX1_touch_4 nH dk (nI p) Post n) _ (nI nH)
    unfold bX1_touch_4
    exact br_t (nI_le (Nat.le_refl _) (by omega)) hp
  · intro n i _ hi _ ih
    show bX1_touch_4 nH dk (nI p) Post (lX1_touch_4 nH dk (nI p) Post n) _ (nI i)
    unfold bX1_touch_4
    have ih := ih () trivial
    have e : tch (i + 1) d p = tch i d p + (if (d (p - 1) i && d p i) then 1 else 0) := rfl
    rw [e] at ih
    rw [show (nI p - 1 : Int32) = nI (p - 1) by rw [show (1 : Int32) = nI 1 from rfl, pk_sub hp1]]
    refine br_f (nI_ge hi (by omega)) (ok1_isDark hs h (by omega) hi ?_)
    refine br_c (fun c => ?_) (fun c => ok1_isDark hs h hp2 hi ?_)
    · rw [bI_0] at c
      rw [c] at ih
      rw [i1]
      exact ih
    · rw [bI_0, Bool.not_eq_false] at c
      rw [c, Bool.true_and] at ih
      refine br_c (fun c2 => ?_) (fun c2 => ?_)
      · rw [bI_0] at c2
        rw [c2] at ih
        rw [i1]
        exact ih
      · rw [bI_0, Bool.not_eq_false] at c2
        rw [c2] at ih
        intro x ex
        subst ex
        rw [i1, i1]
        exact ih
theorem ok1_mayCut {nW nH : Nat} {d : Nat → Nat → Bool} {dk : Nat → Int32} (hs : szs nW nH) (h : hld1 nW nH d dk) {p : Nat} (hp1 : 1 ≤ p) (hp2 : p < nW) {Post : Int32 → Prop} (hp : Post (bI (mayC nH d p))) : wX1_mayCut nW nH dk (nI p) Post := by
  obtain ⟨h1, h2, h3, h4⟩ := id hs
  unfold wX1_mayCut
  refine ok1_touch hs h hp1 hp2 ?_
  have bt := tch_le nH d p
  rw [show (nI p - 1 : Int32) = nI (p - 1) by rw [show (1 : Int32) = nI 1 from rfl, pk_sub hp1], show (3 : Int32) = nI 3 from rfl, nI_leI (by omega) (by omega)]
  unfold mayC at hp
  refine br_c (fun c => ?_) (fun c => ok1_hasDark hs h (by omega) ?_)
  · rw [decide_eq_false (by omega), Bool.false_and] at hp
    exact hp
  · rw [decide_eq_true (by omega), Bool.true_and] at hp
    refine br_c (fun c2 => ok1_hasDark hs h hp2 ?_) (fun c2 => ?_)
    · rw [bI_0] at c2
      rw [c2, Bool.false_or] at hp
      refine br_c (fun c3 => ?_) (fun c3 => ?_)
      · rw [bI_0] at c3
        rw [c3] at hp
        exact hp
      · rw [bI_0, Bool.not_eq_false] at c3
        rw [c3] at hp
        exact hp
    · rw [bI_0, Bool.not_eq_false] at c2
      rw [c2, Bool.true_or] at hp
      exact hp
