/-! ===== the class's cut ===== -/
/-- the shelves of the places from UNTIL - m on; 'pay x y i v': what is told of a way that starts at x and goes on as the i-th of y does -/
def tbl {α : Type} (nW nH : Nat) (d : Nat → Nat → Bool) (k : Nat) (pay : Nat → Nat → Nat → α → α) (e0 : α) : Nat → Nat → Sh α
  | 0 => fun _ => (1, fun _ => (0, e0))
  | m + 1 => fun y => if y = fUntil nW nH d - (m + 1) then atx nW nH d k (pay y) (tbl nW nH d k pay e0 m) (0, fun _ => (0, e0)) y (m + 1) else tbl nW nH d k pay e0 m y
theorem tbl_good {α : Type} {nW nH : Nat} {d : Nat → Nat → Bool} (hs : szs nW nH) {k : Nat} (hk : 1 ≤ k) (pay : Nat → Nat → Nat → α → α) (e0 : α) (hU : fUntil nW nH d ≤ 60) : ∀ m, m ≤ fUntil nW nH d → ∀ y, fUntil nW nH d - m ≤ y → y ≤ fUntil nW nH d → good k (fUntil nW nH d) y (tbl nW nH d k pay e0 m y)
  | 0, _, y, h1, h2 => ⟨fun _ _ _ _ => Nat.le_refl 0, hk, fun _ _ => Nat.zero_le _⟩
  | m + 1, hm, y, h1, h2 => by
    have ih := tbl_good hs hk pay e0 hU m (by omega)
    show good k (fUntil nW nH d) y (if y = fUntil nW nH d - (m + 1) then _ else _)
    by_cases e : y = fUntil nW nH d - (m + 1)
    · rw [if_pos e]
      exact atx_good hs hU (fun z z1 z2 _ => ih z (by omega) z2) (m + 1) (by omega)
    · rw [if_neg e]
      exact ih y (by omega) h2
theorem tbl_st {α : Type} {nW nH : Nat} {d : Nat → Nat → Bool} {k : Nat} {pay : Nat → Nat → Nat → α → α} {e0 : α} {m y : Nat} (h : y ≠ fUntil nW nH d - (m + 1)) : tbl nW nH d k pay e0 (m + 1) y = tbl nW nH d k pay e0 m y := by
  show (if y = fUntil nW nH d - (m + 1) then _ else _) = _
  rw [if_neg h]
theorem tbl_at {α : Type} {nW nH : Nat} {d : Nat → Nat → Bool} {k : Nat} {pay : Nat → Nat → Nat → α → α} {e0 : α} {m : Nat} : tbl nW nH d k pay e0 (m + 1) (fUntil nW nH d - (m + 1)) = atx nW nH d k (pay (fUntil nW nH d - (m + 1))) (tbl nW nH d k pay e0 m) (0, fun _ => (0, e0)) (fUntil nW nH d - (m + 1)) (m + 1) := by
  show (if _ = _ then _ else _) = _
  rw [if_pos rfl]
abbrev pyC : Nat → Nat → Nat → Int64 → Int64 := fun x _ => payC x
/-- the class's shelves -/
def tC (nW nH : Nat) (d : Nat → Nat → Bool) (k : Nat) : Nat → Nat → Sh Int64 := tbl nW nH d k pyC (zShl 1 (nI (fUntil nW nH d)))
set_option maxHeartbeats 2000000 in
theorem ok0_ends {nW nH : Nat} {d : Nat → Nat → Bool} {cols rows : Nat → Int64} (hs : szs nW nH) (h : hld0 nW nH d cols rows) (hd : hasD nW nH d) {k : Nat} (hk1 : 1 ≤ k) (hk : k ≤ 40) {ends : Nat → Int64} {ecost ecnt : Nat → Int32} (hU : rpC ends ecost ecnt (fUntil nW nH d) (tC nW nH d k 0 (fUntil nW nH d))) {Post : (Nat → Int64) → (Nat → Int32) → (Nat → Int32) → Prop}
    (hp : ∀ (ends' : Nat → Int64) (ecost' ecnt' : Nat → Int32), rpC ends' ecost' ecnt' (fFrom nW nH d) (tC nW nH d k (fUntil nW nH d - fFrom nW nH d) (fFrom nW nH d)) → Post ends' ecost' ecnt') : wX0_shelveEnds nW nH cols rows ends ecost ecnt (nI (fFrom nW nH d)) (nI (fUntil nW nH d)) (nI k) Post := by
  obtain ⟨h1, h2, h3, h4⟩ := id hs
  obtain ⟨q1, q2, q3, q4, q5⟩ := fFrom_lt hd
  unfold wX0_shelveEnds
  refine ok0_due hs h (ok0_places hs h q4 q1 (fun m hm => ?_))
  intro x7 e7 x9 e9
  have hst : isMask x7 (stp nW nH d) := fun i => by
    rw [e7, lb_or, hm i, lb_one _ (by omega)]
    rfl
  have gd : ∀ t, t ≤ fUntil nW nH d → ∀ y, fUntil nW nH d - t ≤ y → y ≤ fUntil nW nH d → good k (fUntil nW nH d) y (tC nW nH d k t y) := fun t ht y y1 y2 => tbl_good hs hk1 _ _ (by omega) t ht y y1 y2
  refine pk_loop (fun n t (q : (Nat → Int64) × (Nat → Int32) × (Nat → Int32)) => fFrom nW nH d + t < fUntil nW nH d → lX0_shelveEnds_27 nW nH cols rows (nI (fFrom nW nH d)) (nI (fUntil nW nH d)) (nI k) Post n (nI (fDue nW nH d)) m x7 (nI (fUntil nW nH d - 1 - t)) q.1 q.2.1 q.2.2) (fun t q => ∀ y, fUntil nW nH d - t ≤ y → y ≤ fUntil nW nH d → stp nW nH d y = true → rpC q.1 q.2.1 q.2.2 y (tC nW nH d k t y)) (fUntil nW nH d - 1 - fFrom nW nH d) 0 (ends, ecost, ecnt) (Nat.zero_le _) ?_ ?_ ?_ |>.elim (fun n hn => ⟨n, ?_⟩)
  · intro y y1 y2 _
    have : y = fUntil nW nH d := by omega
    subst this
    exact hU
  · intro n q hI _
    show bX0_shelveEnds_27 nW nH cols rows (nI (fFrom nW nH d)) (nI (fUntil nW nH d)) (nI k) Post (lX0_shelveEnds_27 nW nH cols rows (nI (fFrom nW nH d)) (nI (fUntil nW nH d)) (nI k) Post n) (nI (fDue nW nH d)) m x7 (nI (fUntil nW nH d - 1 - (fUntil nW nH d - 1 - fFrom nW nH d))) q.1 q.2.1 q.2.2
    unfold bX0_shelveEnds_27
    refine br_t (nI_le (by omega) (by omega)) ?_
    refine ok0_endsAt hs h hd hk1 hk q3 hst (S := tC nW nH d k (fUntil nW nH d - 1 - fFrom nW nH d)) (f := fun _ => (0, zShl 1 (nI (fUntil nW nH d)))) (fun y y1 y2 y3 => ⟨hI y (by omega) y2 y3, gd _ (by omega) y (by omega) y2⟩) (fun e1 c1 n1 k1 _ => hp e1 c1 n1 ?_)
    have e := tbl_at (nW := nW) (nH := nH) (d := d) (k := k) (pay := pyC) (e0 := zShl 1 (nI (fUntil nW nH d))) (m := fUntil nW nH d - 1 - fFrom nW nH d)
    rw [show fUntil nW nH d - 1 - fFrom nW nH d + 1 = fUntil nW nH d - fFrom nW nH d by omega, show fUntil nW nH d - (fUntil nW nH d - fFrom nW nH d) = fFrom nW nH d by omega] at e
    unfold tC
    rw [e]
    exact k1
  · intro n t q ht hI ih hlt
    obtain ⟨e0, c0, n0⟩ := q
    dsimp only at hI
    show bX0_shelveEnds_27 nW nH cols rows (nI (fFrom nW nH d)) (nI (fUntil nW nH d)) (nI k) Post (lX0_shelveEnds_27 nW nH cols rows (nI (fFrom nW nH d)) (nI (fUntil nW nH d)) (nI k) Post n) (nI (fDue nW nH d)) m x7 (nI (fUntil nW nH d - 1 - t)) e0 c0 n0
    unfold bX0_shelveEnds_27
    have nxt : (nI (fUntil nW nH d - 1 - t) + (-1) : Int32) = nI (fUntil nW nH d - 1 - (t + 1)) := by
      rw [show fUntil nW nH d - 1 - t = (fUntil nW nH d - 1 - (t + 1)) + 1 by omega, pk_m1]
    have mcs : mC nH d (fFrom nW nH d) (fUntil nW nH d) (fUntil nW nH d - 1 - t) = stp nW nH d (fUntil nW nH d - 1 - t) := by
      unfold stp
      rw [decide_eq_false (show ¬ fUntil nW nH d - 1 - t = fUntil nW nH d by omega), Bool.or_false]
    refine br_f (nI_ge (by omega) (by omega)) (ok_has (by omega) ?_)
    rw [hm (fUntil nW nH d - 1 - t), mcs, nxt]
    have old : ∀ y, y ≠ fUntil nW nH d - 1 - t → tC nW nH d k (t + 1) y = tC nW nH d k t y := fun y hy => tbl_st (by omega)
    refine br_c (fun c => ?_) (fun c => ?_)
    · have es : stp nW nH d (fUntil nW nH d - 1 - t) = false := by
        cases e : stp nW nH d (fUntil nW nH d - 1 - t) with
        | false => rfl
        | true => rw [e] at c; exact absurd c (by decide)
      refine ih (e0, c0, n0) (fun y y1 y2 y3 => ?_) (by omega)
      have hy : y ≠ fUntil nW nH d - 1 - t := fun e => by rw [e, es] at y3; cases y3
      rw [old y hy]
      exact hI y (by omega) y2 y3
    · refine ok0_endsAt hs h hd hk1 hk (by omega) hst (S := tC nW nH d k t) (f := fun _ => (0, zShl 1 (nI (fUntil nW nH d)))) (fun y y1 y2 y3 => ⟨hI y (by omega) y2 y3, gd _ (by omega) y (by omega) y2⟩) (fun e1 c1 n1 k1 k2 => ih (e1, c1, n1) (fun y y1 y2 y3 => ?_) (by omega))
      by_cases hy : y = fUntil nW nH d - 1 - t
      · have e := tbl_at (nW := nW) (nH := nH) (d := d) (k := k) (pay := pyC) (e0 := zShl 1 (nI (fUntil nW nH d))) (m := t)
        rw [show fUntil nW nH d - (t + 1) = fUntil nW nH d - 1 - t by omega] at e
        rw [show fUntil nW nH d - (fUntil nW nH d - 1 - t) = t + 1 by omega] at k1
        rw [hy]
        unfold tC
        rw [e]
        exact k1
      · rw [old y hy]
        exact rpC_fr (hI y (by omega) y2 y3) (Nat.le_trans (gd t (by omega) y (by omega) y2).2.1 hk) k2 hy
  · rw [e9]
    have := hn (by omega)
    rw [show (nI (fUntil nW nH d) - 1 : Int32) = nI (fUntil nW nH d - 1 - 0) by rw [show (1 : Int32) = nI 1 from rfl, pk_sub (by omega)]; rfl]
    exact this
theorem ok0_cut {nW nH : Nat} {d : Nat → Nat → Bool} {cols rows : Nat → Int64} (hs : szs nW nH) (h : hld0 nW nH d cols rows) {ff fd : Int32} {ends : Nat → Int64} {ecost ecnt : Nat → Int32} {a : Int32} {Post : Int32 → Int32 → Int32 → (Nat → Int64) → (Nat → Int32) → (Nat → Int32) → Prop}
    (hp1 : (a < 1 ∨ ¬ a ≤ 40) → Post (-1) ff fd ends ecost ecnt)
    (hp2 : ¬ a < 1 → a ≤ 40 → rM nW nH d = 0 → Post 0 ff 0 ends ecost ecnt)
    (hp3 : ∀ k : Nat, 1 ≤ k → k ≤ 40 → a = nI k → ¬ rM nW nH d = 0 → ∀ (ends' : Nat → Int64) (ecost' ecnt' : Nat → Int32), rpC ends' ecost' ecnt' (fFrom nW nH d) (tC nW nH d k (fUntil nW nH d - fFrom nW nH d) (fFrom nW nH d)) → Post (nI (tC nW nH d k (fUntil nW nH d - fFrom nW nH d) (fFrom nW nH d)).1) (nI (fFrom nW nH d)) (nI (tC nW nH d k (fUntil nW nH d - fFrom nW nH d) (fFrom nW nH d)).1) ends' ecost' ecnt') : wX0_cut nW nH cols rows ff fd ends ecost ecnt a Post := by
  obtain ⟨h1, h2, h3, h4⟩ := id hs
  unfold wX0_cut
  refine br_c (fun c => hp1 (Or.inl c)) (fun c => br_c (fun c2 => ?_) (fun c2 => hp1 (Or.inr c2)))
  obtain ⟨k, hk, ek⟩ : ∃ k : Nat, k ≤ 40 ∧ a = nI k := by
    refine nI_of2 (M := 40) rfl (fun q => c ?_) c2
    rw [Int32.lt_iff_toInt_lt] at q ⊢
    have e0 : (0 : Int32).toInt = 0 := rfl
    have e1 : (1 : Int32).toInt = 1 := rfl
    rw [e0] at q
    rw [e1]
    omega
  have hk1 : 1 ≤ k := by
    rcases Nat.eq_zero_or_pos k with z | z
    · subst z
      rw [ek] at c
      exact absurd (by decide) c
    · exact z
  refine ok0_firstDark hs h ?_
  by_cases hd : rM nW nH d = 0
  · exact br_t (ansF_no hd) (hp2 c c2 hd)
  · obtain ⟨q1, q2, q3, q4, q5⟩ := fFrom_lt (hasD_iff.mpr hd)
    rw [ansF_yes hd]
    refine br_f (nI_m1 (by omega)) (ok0_lastDark hs h ?_)
    intro x3 e3
    rw [ansL_yes hd] at e3
    subst e3
    unfold wX0_shelveUntil wX0_shelf
    have esh : (nI (fUntil nW nH d) * 40 : Int32) = nI (40 * fUntil nW nH d) := by rw [show (40 : Int32) = nI 40 from rfl, pk_mul, Nat.mul_comm]
    refine ⟨_, esh, by omega, by omega, _, esh, by omega, by omega, _, rfl, by omega, by omega, ?_⟩
    subst ek
    refine ok0_ends hs h (hasD_iff.mpr hd) hk1 hk ⟨pk_us, fun i hi => ?_⟩ (fun e1 c1 n1 k1 => ?_)
    · have hi : i < 1 := hi
      have : i = 0 := by omega
      subst this
      exact ⟨pk_us, pk_uLs⟩
    · refine ⟨_, rfl, by omega, by omega, ?_⟩
      intro v ev
      rw [k1.1] at ev
      subst ev
      exact hp3 k hk1 hk rfl hd e1 c1 n1 k1
