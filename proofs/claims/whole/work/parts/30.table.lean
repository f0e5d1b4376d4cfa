/-! ===== the table of shelves, from UNTIL to the left ===== -/
def stp (nW nH : Nat) (d : Nat → Nat → Bool) (p : Nat) : Bool := mC nH d (fFrom nW nH d) (fUntil nW nH d) p || decide (p = fUntil nW nH d)
def edg (nW nH : Nat) (d : Nat → Nat → Bool) (a y : Nat) : Bool := stp nW nH d y && decide (0 < sgN nH d a (y - a))
def ecs (nW nH : Nat) (d : Nat → Nat → Bool) (a y : Nat) : Nat := sgC (fDue nW nH d) nH d a (y - a) + (if y < fUntil nW nH d then 10 * tch nH d y else 0)
def atx {α : Type} (nW nH : Nat) (d : Nat → Nat → Bool) (k : Nat) (pay : Nat → Nat → α → α) (S : Nat → Sh α) (z : Sh α) (a : Nat) : Nat → Sh α
  | 0 => z
  | j + 1 => if edg nW nH d a (a + j + 1) then gon k (ecs nW nH d a (a + j + 1)) (pay (a + j + 1)) (S (a + j + 1)) (atx nW nH d k pay S z a j) (S (a + j + 1)).1 else atx nW nH d k pay S z a j
theorem ecs_le {nW nH : Nat} {d : Nat → Nat → Bool} (hs : szs nW nH) {a y : Nat} (hy : y ≤ 60) : ecs nW nH d a y ≤ 4400 := by
  have h1 := sgC_le (P := fDue nW nH d) (nH := nH) (d := d) (a := a) (j := y - a) (Nat.le_trans (fDue_le d hs) (by decide)) (by omega) hs.2.2.2
  have h2 := tch_le nH d y
  have h3 := hs.2.2.2
  unfold ecs
  split <;> omega
/-- a shelf in order, not too long, not too dear -/
def good {α : Type} (k U : Nat) (y : Nat) (s : Sh α) : Prop := srt s ∧ s.1 ≤ k ∧ ∀ i, i < s.1 → (s.2 i).1 ≤ 4400 * (U - y)
theorem good_z {α : Type} (k U y : Nat) (f : Nat → Nat × α) : good k U y ((0, f) : Sh α) := ⟨fun i j _ h => absurd h (Nat.not_lt_zero j), Nat.zero_le k, fun i h => absurd h (Nat.not_lt_zero i)⟩
theorem atx_good {α : Type} {nW nH : Nat} {d : Nat → Nat → Bool} (hs : szs nW nH) {k : Nat} {pay : Nat → Nat → α → α} {S : Nat → Sh α} {f : Nat → Nat × α} {a U : Nat} (hU : U ≤ 60) (hS : ∀ y, a < y → y ≤ U → edg nW nH d a y = true → good k U y (S y)) : ∀ j, a + j ≤ U → good k U a (atx nW nH d k pay S (0, f) a j)
  | 0, _ => good_z k U a f
  | j + 1, h => by
    have ih := atx_good hs (f := f) (pay := pay) hU hS j (by omega)
    show good k U a (if edg nW nH d a (a + j + 1) then _ else _)
    by_cases e : edg nW nH d a (a + j + 1) = true
    · rw [if_pos e]
      obtain ⟨g1, g2, g3⟩ := hS (a + j + 1) (by omega) (by omega) e
      have he := ecs_le (d := d) hs (a := a) (show a + j + 1 ≤ 60 by omega)
      exact gon_inv ih.1 ih.2.1 ih.2.2 _ (fun i hi => by have := g3 i hi; omega)
    · rw [if_neg e]
      exact ih
/-! ===== the class lays a shelf ===== -/
theorem stT_bg (d : Nat → Nat → Bool) (a y : Nat) : ∀ j, (stT d a y j).1 = true ↔ ∃ i, i < j ∧ d (a + i) y = true
  | 0 => ⟨fun h => (by cases h), fun ⟨i, hi, _⟩ => absurd hi (Nat.not_lt_zero i)⟩
  | j + 1 => by
    have ih := stT_bg d a y j
    show ((stT d a y j).1 || d (a + j) y) = true ↔ _
    rw [Bool.or_eq_true, ih]
    constructor
    · rintro (⟨i, hi, e⟩ | e)
      · exact ⟨i, by omega, e⟩
      · exact ⟨j, by omega, e⟩
    · intro ⟨i, hi, e⟩
      by_cases q : i = j
      · subst q
        exact Or.inr e
      · exact Or.inl ⟨i, by omega, e⟩
theorem sgN_iff {nH : Nat} {d : Nat → Nat → Bool} {a j : Nat} : 0 < sgN nH d a j ↔ ∃ y, y < nH ∧ (stT d a y j).1 = true := by
  constructor
  · intro h
    refine Classical.byContradiction (fun q => ?_)
    have : sgN nH d a j = 0 := cnt_false (fun i hi => by
      cases e : gD nH d a i with
      | false => rfl
      | true =>
        obtain ⟨y, hy, ey⟩ := cD_iff.mp e
        exact absurd ⟨y, hy, (stT_bg d a y j).mpr ⟨i, hi, ey⟩⟩ q)
    omega
  · intro ⟨y, hy, e⟩
    obtain ⟨i, hi, ei⟩ := (stT_bg d a y j).mp e
    exact cnt_pos hi (cD_iff.mpr ⟨y, hy, ei⟩)
/-- a word holds a row of booleans -/
def wrd (nH : Nat) (m : Int64) (f : Nat → Bool) : Prop := ∀ y, lb m y = (decide (y < nH) && f y)
theorem wrd_ne0 {nH : Nat} (hH : nH ≤ 40) {m : Int64} {f : Nat → Bool} (h : wrd nH m f) : ¬ m = 0 ↔ ∃ y, y < nH ∧ f y = true := by
  rw [lb_ne0]
  constructor
  · intro ⟨i, hi, e⟩
    rw [h i, Bool.and_eq_true, decide_eq_true_eq] at e
    exact ⟨i, e.1, e.2⟩
  · intro ⟨y, hy, e⟩
    exact ⟨y, by omega, by rw [h y, e, decide_eq_true hy]; rfl⟩
theorem wrd_pop {nH : Nat} (hH : nH ≤ 40) {m : Int64} {f : Nat → Bool} (h : wrd nH m f) : pop m = cnt f nH := by
  unfold pop
  rw [cnt_trim (m := nH) (by omega) (fun i hi _ => by rw [h i, decide_eq_false (by omega)]; rfl)]
  exact cnt_congr (fun i hi => by rw [h i, decide_eq_true hi]; rfl)
def fLast (nH : Nat) (d : Nat → Nat → Bool) (a j : Nat) : Int32 := if 0 < sgN nH d a j then nI (a + lst (gD nH d a) j - 1) else -1
def fFirst (nH : Nat) (d : Nat → Nat → Bool) (a j : Nat) : Int32 := if 0 < sgN nH d a j then nI (a + fst (gD nH d a) j) else -1
theorem sgN_s (nH : Nat) (d : Nat → Nat → Bool) (a j : Nat) : sgN nH d a (j + 1) = sgN nH d a j + (if gD nH d a j then 1 else 0) := rfl
theorem sgN_none {nH : Nat} {d : Nat → Nat → Bool} {a j : Nat} (h : ¬ 0 < sgN nH d a j) : ∀ i, i < j → gD nH d a i = false := cnt_eq0.mp (by unfold sgN at h; omega)
set_option maxHeartbeats 4000000 in
theorem ok0_endsAt {nW nH : Nat} {d : Nat → Nat → Bool} {cols rows : Nat → Int64} (hs : szs nW nH) (h : hld0 nW nH d cols rows) (hd : hasD nW nH d) {k a : Nat} (hk1 : 1 ≤ k) (hk : k ≤ 40) (ha : a < fUntil nW nH d) {st : Int64} (hst : isMask st (stp nW nH d)) {S : Nat → Sh Int64} {f : Nat → Nat × Int64} {ends : Nat → Int64} {ecost ecnt : Nat → Int32}
    (hS : ∀ y, a < y → y ≤ fUntil nW nH d → stp nW nH d y = true → rpC ends ecost ecnt y (S y) ∧ good k (fUntil nW nH d) y (S y)) {Post : (Nat → Int64) → (Nat → Int32) → (Nat → Int32) → Prop}
    (hp : ∀ (ends' : Nat → Int64) (ecost' ecnt' : Nat → Int32), rpC ends' ecost' ecnt' a (atx nW nH d k (fun _ => payC a) S (0, f) a (fUntil nW nH d - a)) → fr0 a ends ends' ecost ecost' ecnt ecnt' → Post ends' ecost' ecnt') : wX0_shelveEndsAt nW cols ends ecost ecnt (nI a) (nI (fUntil nW nH d)) st (nI (fDue nW nH d)) (nI k) Post := by
  obtain ⟨h1, h2, h3, h4⟩ := id hs
  obtain ⟨q1, q2, q3, q4, q5⟩ := fFrom_lt hd
  have hdue := fDue_le d hs
  generalize eU : fUntil nW nH d = U at *
  have hedge : ∀ y, a < y → y ≤ U → edg nW nH d a y = true → good k U y (S y) := fun y y1 y2 e => (hS y y1 y2 (by unfold edg at e; rw [Bool.and_eq_true] at e; exact e.1)).2
  unfold wX0_shelveEndsAt
  refine ⟨a, rfl, by omega, by omega, ?_⟩
  refine pk_loop (fun n j (q : (Int64 × Int64 × Int64) × (Nat → Int64) × (Nat → Int32) × (Nat → Int32)) => lX0_shelveEndsAt_28 nW cols (nI a) (nI U) st (nI (fDue nW nH d)) (nI k) Post n (fFirst nH d a j) (fLast nH d a j) (nI (sgN nH d a j)) q.1.1 q.1.2.1 q.1.2.2 (nI (a + j)) q.2.1 q.2.2.1 q.2.2.2) (fun j q => (wrd nH q.1.1 (fun y => (stT d a y j).1) ∧ wrd nH q.1.2.1 (fun y => (stT d a y j).2.1) ∧ wrd nH q.1.2.2 (fun y => (stT d a y j).2.2)) ∧ rpC q.2.1 q.2.2.1 q.2.2.2 a (atx nW nH d k (fun _ => payC a) S (0, f) a j) ∧ fr0 a ends q.2.1 ecost q.2.2.1 ecnt q.2.2.2) (U - a) 0 ((0, 0, 0), (ends, ecost, upd ecnt a 0)) (Nat.zero_le _) ?_ ?_ ?_
  · refine ⟨⟨fun y => ?_, fun y => ?_, fun y => ?_⟩, ⟨pk_us, fun i hi => absurd hi (Nat.not_lt_zero i)⟩, ⟨fun y hy => pk_un hy, fun i _ => ⟨rfl, rfl⟩⟩⟩
    · rw [lb_0]; show false = (_ && false); rw [Bool.and_false]
    · rw [lb_0]; show false = (_ && false); rw [Bool.and_false]
    · rw [lb_0]; show false = (_ && false); rw [Bool.and_false]
  · intro n q hI
    show bX0_shelveEndsAt_28 nW cols (nI a) (nI U) st (nI (fDue nW nH d)) (nI k) Post (lX0_shelveEndsAt_28 nW cols (nI a) (nI U) st (nI (fDue nW nH d)) (nI k) Post n) _ _ _ _ _ _ (nI (a + (U - a))) _ _ _
    unfold bX0_shelveEndsAt_28
    exact br_t (nI_le (by omega) (by omega)) (hp _ _ _ hI.2.1 hI.2.2)
  · intro n j q hj hI ih
    obtain ⟨⟨m1v, m2v, m3v⟩, e0, c0, n0⟩ := q
    obtain ⟨⟨w1, w2, w3⟩, hr, hf⟩ := hI
    dsimp only at w1 w2 w3 hr hf
    show bX0_shelveEndsAt_28 nW cols (nI a) (nI U) st (nI (fDue nW nH d)) (nI k) Post (lX0_shelveEndsAt_28 nW cols (nI a) (nI U) st (nI (fDue nW nH d)) (nI k) Post n) (fFirst nH d a j) (fLast nH d a j) (nI (sgN nH d a j)) m1v m2v m3v (nI (a + j)) e0 c0 n0
    unfold bX0_shelveEndsAt_28
    refine br_f (nI_ge (by omega) (by omega)) ⟨a + j, rfl, by omega, by omega, ?_⟩
    intro x17 e17 x14 e14 x12 e12 x10 e10
    have wc : wrd nH x17 (fun y => d (a + j) y) := fun y => by rw [e17]; exact h.1 (a + j) (by omega) y
    have v14 : wrd nH x14 (fun y => (stT d a y (j + 1)).2.2) := fun y => by
      show _ = (decide (y < nH) && ((stT d a y j).2.2 || ((stT d a y j).2.1 && d (a + j) y)))
      rw [e14, lb_or, lb_and, w3 y, w2 y, wc y]
      cases decide (y < nH) <;> simp
    have v12 : wrd nH x12 (fun y => (stT d a y (j + 1)).2.1) := fun y => by
      show _ = (decide (y < nH) && ((stT d a y j).2.1 || ((stT d a y j).1 && !d (a + j) y)))
      rw [e12, lb_or, lb_and, lb_xor, w2 y, w1 y, wc y]
      by_cases hy : y < nH
      · rw [decide_eq_true hy, lb_m1 (by omega)]
        simp
      · rw [decide_eq_false hy]
        simp
    have v10 : wrd nH x10 (fun y => (stT d a y (j + 1)).1) := fun y => by
      show _ = (decide (y < nH) && ((stT d a y j).1 || d (a + j) y))
      rw [e10, lb_or, w1 y, wc y]
      cases decide (y < nH) <;> simp
    have hcol : ¬ x17 = 0 ↔ gD nH d a j = true := by
      rw [e17]
      exact cols_ne0 hs h (by omega)
    -- the sign may end here
    have stop : jX0_shelveEndsAt_103 nW cols (nI a) (nI U) st (nI (fDue nW nH d)) (nI k) Post (lX0_shelveEndsAt_28 nW cols (nI a) (nI U) st (nI (fDue nW nH d)) (nI k) Post n) (fFirst nH d a (j + 1)) (fLast nH d a (j + 1)) (nI (sgN nH d a (j + 1))) x10 x12 x14 (nI (a + j)) e0 c0 n0 := by
      unfold jX0_shelveEndsAt_103
      intro x19 e19
      rw [i1] at e19
      subst e19
      have next : ∀ (e1 : Nat → Int64) (c1 n1 : Nat → Int32), rpC e1 c1 n1 a (atx nW nH d k (fun _ => payC a) S (0, f) a (j + 1)) → fr0 a ends e1 ecost c1 ecnt n1 → lX0_shelveEndsAt_28 nW cols (nI a) (nI U) st (nI (fDue nW nH d)) (nI k) Post n (fFirst nH d a (j + 1)) (fLast nH d a (j + 1)) (nI (sgN nH d a (j + 1))) x10 x12 x14 (nI (a + j) + 1) e1 c1 n1 := fun e1 c1 n1 k1 k2 => by
        rw [i1]
        exact ih ((x10, x12, x14), (e1, c1, n1)) ⟨⟨v10, v12, v14⟩, k1, k2⟩
      have skip : edg nW nH d a (a + j + 1) = false → lX0_shelveEndsAt_28 nW cols (nI a) (nI U) st (nI (fDue nW nH d)) (nI k) Post n (fFirst nH d a (j + 1)) (fLast nH d a (j + 1)) (nI (sgN nH d a (j + 1))) x10 x12 x14 (nI (a + j) + 1) e0 c0 n0 := fun e => by
        refine next e0 c0 n0 ?_ hf
        have : atx nW nH d k (fun _ => payC a) S (0, f) a (j + 1) = atx nW nH d k (fun _ => payC a) S (0, f) a j := by
          show (if edg nW nH d a (a + j + 1) then _ else _) = _
          rw [e]
          rfl
        rw [this]
        exact hr
      have ej : a + j + 1 - a = j + 1 := by omega
      refine br_c (fun c => skip ?_) (fun c => ok_has (by omega) ?_)
      · rw [lg_cmp_eq] at c
        unfold edg
        rw [ej, decide_eq_false, Bool.and_false]
        rw [sgN_iff]
        intro q
        exact (wrd_ne0 h4 v10).mpr q c
      · rw [lg_cmp_eq, wrd_ne0 h4 v10, ← sgN_iff] at c
        rw [hst (a + j + 1)]
        refine br_c (fun c2 => skip ?_) (fun c2 => ?_)
        · have : stp nW nH d (a + j + 1) = false := by
            cases e : stp nW nH d (a + j + 1) with
            | false => rfl
            | true => rw [e] at c2; exact absurd c2 (by decide)
          unfold edg
          rw [this]
          rfl
        · have es : stp nW nH d (a + j + 1) = true := by
            cases e : stp nW nH d (a + j + 1) with
            | true => rfl
            | false => rw [e] at c2; exact absurd rfl c2
          have ee : edg nW nH d a (a + j + 1) = true := by
            unfold edg
            rw [es, ej, decide_eq_true c]
            rfl
          obtain ⟨p1, p2, p3⟩ := sgN_pos c
          have hw : sgW nH d a (j + 1) ≤ j + 1 := sgW_le
          have hB : sgB nH d a (j + 1) ≤ nH := sgB_le
          intro x20 e20
          have e20 : x20 = nI (sgW nH d a (j + 1)) := by
            rw [e20]
            unfold fLast fFirst
            rw [if_pos c, if_pos c, pk_sub (by omega), i1]
            congr 1
            unfold sgW
            omega
          subst e20
          refine ok_bitCount ?_
          rw [wrd_pop h4 v14, pk_sub p3]
          refine ok0_signCost (by omega) (by omega) (show sgB nH d a (j + 1) ≤ 60 by omega) (by omega) ?_
          have eC : df (sgW nH d a (j + 1)) (fDue nW nH d) * df (sgW nH d a (j + 1)) (fDue nW nH d) + 5 * (sgW nH d a (j + 1) - sgN nH d a (j + 1)) + 2 * (sgB nH d a (j + 1) - 1) = sgC (fDue nW nH d) nH d a (j + 1) := rfl
          have eB : cnt (fun y => (stT d a y (j + 1)).2.2) nH = sgB nH d a (j + 1) := rfl
          obtain ⟨ry, gy⟩ := hS (a + j + 1) (by omega) (by omega) es
          have ry1 := rpC_fr ry (Nat.le_trans gy.2.1 hk) hf (by omega)
          have ga := atx_good (pay := fun _ => payC a) (f := f) hs (show U ≤ 60 by omega) hedge j (by omega)
          have he := ecs_le (d := d) hs (a := a) (show a + j + 1 ≤ 60 by omega)
          have goes : ∀ cc : Nat, cc = ecs nW nH d a (a + j + 1) → wX0_goOnFrom nW e0 c0 n0 (nI (a + j + 1)) (nI a) (nI cc) (nI k) (fun e1 c1 n1 => lX0_shelveEndsAt_28 nW cols (nI a) (nI U) st (nI (fDue nW nH d)) (nI k) Post n (fFirst nH d a (j + 1)) (fLast nH d a (j + 1)) (nI (sgN nH d a (j + 1))) x10 x12 x14 (nI (a + j) + 1) e1 c1 n1) := fun cc ec => by
            subst ec
            refine ok0_goOn h2 (by omega) (by omega) (by omega) hk1 hk ry1 gy.1 (Nat.le_trans gy.2.1 hk) hr ga.1 ga.2.1 (B := 4400 * (U - a)) (by omega) ga.2.2 (fun i hi => by have := gy.2.2 i hi; omega) (fun e1 c1 n1 k1 k2 => next e1 c1 n1 ?_ (fr0_tr hf k2))
            have : atx nW nH d k (fun _ => payC a) S (0, f) a (j + 1) = gon k (ecs nW nH d a (a + j + 1)) (payC a) (S (a + j + 1)) (atx nW nH d k (fun _ => payC a) S (0, f) a j) (S (a + j + 1)).1 := by
              show (if edg nW nH d a (a + j + 1) then _ else _) = _
              rw [ee]
              rfl
            rw [this]
            exact k1
          refine br_c (fun c3 => ?_) (fun c3 => ?_)
          · rw [nI_leI (by omega) (by omega)] at c3
            rw [show (0 : Int32) = nI 0 from rfl, nI_add]
            refine goes _ ?_
            unfold ecs
            rw [eU, if_neg (by omega), ej]
            exact congrArg (· + 0) eC
          · rw [nI_leI (by omega) (by omega)] at c3
            refine ok0_touch hs h (by omega) (by omega) ?_
            rw [show (10 : Int32) = nI 10 from rfl, pk_mul, nI_add]
            refine goes _ ?_
            unfold ecs
            rw [eU, if_pos (by omega), ej]
            exact congrArg (· + 10 * tch nH d (a + j + 1)) eC
    refine br_c (fun c => ?_) (fun c => ?_)
    · rw [lg_cmp_eq] at c
      have hg : gD nH d a j = false := by
        cases e : gD nH d a j with
        | false => rfl
        | true => exact absurd c (hcol.mpr e)
      have eN : sgN nH d a (j + 1) = sgN nH d a j := by rw [sgN_s, hg]; rfl
      have eF : fFirst nH d a (j + 1) = fFirst nH d a j := by
        unfold fFirst
        rw [eN]
        by_cases z : 0 < sgN nH d a j
        · rw [if_pos z, if_pos z]
          have := (sgN_pos z).1
          have h5 := (sgN_pos z).2.1
          congr 2
          show (if fst (gD nH d a) j < j then _ else _) = _
          rw [if_pos (by omega)]
        · rw [if_neg z, if_neg z]
      have eL : fLast nH d a (j + 1) = fLast nH d a j := by
        unfold fLast
        rw [eN]
        have : lst (gD nH d a) (j + 1) = lst (gD nH d a) j := by
          show (if gD nH d a j then _ else _) = _
          rw [hg]
          rfl
        rw [this]
      rw [eN, eF, eL] at stop
      exact stop
    · rw [lg_cmp_eq, hcol] at c
      have eN : sgN nH d a (j + 1) = sgN nH d a j + 1 := by rw [sgN_s, c]; rfl
      have eL : fLast nH d a (j + 1) = nI (a + j) := by
        unfold fLast
        rw [if_pos (by omega)]
        have : lst (gD nH d a) (j + 1) = j + 1 := by
          show (if gD nH d a j then _ else _) = _
          rw [c]
          rfl
        rw [this]
        congr 1
      rw [eN, eL, ← i1] at stop
      by_cases z : 0 < sgN nH d a j
      · have eF : fFirst nH d a (j + 1) = fFirst nH d a j := by
          unfold fFirst
          rw [eN, if_pos z, if_pos (by omega)]
          have := (sgN_pos z).1
          have h5 := (sgN_pos z).2.1
          congr 2
          show (if fst (gD nH d a) j < j then _ else _) = _
          rw [if_pos (by omega)]
        rw [eF] at stop
        refine br_f ?_ stop
        unfold fFirst
        rw [if_pos z]
        have := (sgN_pos z).1
        have h5 := (sgN_pos z).2.1
        exact nI_m1 (by omega)
      · have eF : fFirst nH d a (j + 1) = nI (a + j) := by
          unfold fFirst
          rw [eN, if_pos (by omega)]
          congr 2
          exact fst_eq (by omega) c (sgN_none z)
        rw [eF] at stop
        refine br_t ?_ stop
        unfold fFirst
        rw [if_neg z]
