/-! ===== base ===== -/
def nCut (nW nH : Nat) (d : Nat → Nat → Bool) : Nat := cnt (mC nH d (fFrom nW nH d) (fUntil nW nH d)) 64
def aBase (nW nH : Nat) (d : Nat → Nat → Bool) (a : Int32) : Int32 :=
  if rM nW nH d = 0 then -1 else if a = 0 then nI (fMid nW nH d) else if a = 1 then nI (fBas nW nH d) else if a = 2 then nI (fDue nW nH d) else if a = 3 then nI (fFrom nW nH d) else if a = 4 then nI (fUntil nW nH d) else if a = 5 then nI (nCut nW nH d) else -1
theorem nI_m1 {n : Nat} (h : n < 2 ^ 31) : ¬ nI n = -1 := by
  intro e
  have := nI_pos h
  rw [e] at this
  exact this (by decide)
theorem hasD_iff {nW nH : Nat} {d : Nat → Nat → Bool} : hasD nW nH d ↔ ¬ rM nW nH d = 0 := by
  rw [rM_pos]
  constructor
  · intro ⟨x, hx, e⟩ h
    rw [h x hx] at e
    cases e
  · intro h
    refine Classical.byContradiction (fun q => h (fun x hx => ?_))
    cases e : cD nH d x with
    | false => rfl
    | true => exact absurd ⟨x, hx, e⟩ q
theorem ansF_no {nW nH : Nat} {d : Nat → Nat → Bool} (h : rM nW nH d = 0) : ansF nW nH d = -1 := by
  have e : fFrom nW nH d = nW := fst_none (rM_pos.mp h)
  unfold ansF
  rw [e, if_neg (Nat.lt_irrefl _)]
theorem ansF_yes {nW nH : Nat} {d : Nat → Nat → Bool} (h : ¬ rM nW nH d = 0) : ansF nW nH d = nI (fFrom nW nH d) := by
  unfold ansF
  rw [if_pos (fFrom_lt (hasD_iff.mpr h)).1]
theorem ansL_yes {nW nH : Nat} {d : Nat → Nat → Bool} (h : ¬ rM nW nH d = 0) : ansL nW nH d + 1 = nI (fUntil nW nH d) := by
  have h1 := (fFrom_lt (hasD_iff.mpr h)).2.2.1
  obtain ⟨k, hk⟩ : ∃ k, fUntil nW nH d = k + 1 := ⟨fUntil nW nH d - 1, by omega⟩
  unfold ansL
  rw [hk, m1, i1]
theorem ok0_base {nW nH : Nat} {d : Nat → Nat → Bool} {cols rows : Nat → Int64} (hs : szs nW nH) (h : hld0 nW nH d cols rows) {a : Int32} {Post : Int32 → Prop} (hp : Post (aBase nW nH d a)) : wX0_base nW nH cols rows a Post := by
  obtain ⟨h1, h2, h3, h4⟩ := id hs
  unfold wX0_base
  refine ok0_firstDark hs h ?_
  unfold aBase at hp
  by_cases hd : rM nW nH d = 0
  · rw [if_pos hd] at hp
    exact br_t (ansF_no hd) hp
  · rw [if_neg hd] at hp
    obtain ⟨q1, q2, q3, q4, q5⟩ := fFrom_lt (hasD_iff.mpr hd)
    rw [ansF_yes hd]
    refine br_f (nI_m1 (by omega)) ?_
    refine ⟨fun c => ?_, fun c => ?_, fun c => ?_, fun c => ?_, fun c => ?_, fun c => ?_, fun c => ?_⟩
    · subst c
      exact ok0_firstStrong hs h hp
    · subst c
      exact ok0_lastStrong hs h hp
    · subst c
      exact ok0_due hs h hp
    · subst c
      refine ok0_firstDark hs h ?_
      rw [ansF_yes hd]
      exact hp
    · subst c
      refine ok0_lastDark hs h ?_
      rw [ansL_yes hd]
      exact hp
    · subst c
      refine ok0_firstDark hs h (ok0_lastDark hs h ?_)
      rw [ansF_yes hd, ansL_yes hd]
      refine ok0_places hs h q4 q1 (fun m hm => ok_bitCount ?_)
      have e : pop m = nCut nW nH d := cnt_congr (fun i _ => hm i)
      rw [e]
      exact hp
    · rw [if_neg c.1, if_neg c.2.1, if_neg c.2.2.1, if_neg c.2.2.2.1, if_neg c.2.2.2.2.1, if_neg c.2.2.2.2.2] at hp
      exact hp
theorem ok1_count {nW nH : Nat} {d : Nat → Nat → Bool} {dk : Nat → Int32} (hs : szs nW nH) (h : hld1 nW nH d dk) (hd : hasD nW nH d) {a : Int32} {Post : Int32 → Int32 → Prop} (hp : Post (nI (nCut nW nH d)) 0) : ∃ n : Nat, lX1_base_89 nW nH dk a Post n 0 (nI (fFrom nW nH d + 1)) 0 := by
  obtain ⟨h1, h2, h3, h4⟩ := id hs
  obtain ⟨q1, q2, q3, q4, q5⟩ := fFrom_lt hd
  refine pk_loop (fun n i (v : Int32) => lX1_base_89 nW nH dk a Post n v (nI i) 0) (fun i v => fFrom nW nH d < i ∧ v = nI (cnt (mC nH d (fFrom nW nH d) (fUntil nW nH d)) i)) (fUntil nW nH d) (fFrom nW nH d + 1) 0 (by omega) ?_ ?_ ?_
  · refine ⟨by omega, ?_⟩
    rw [cnt_false (fun i hi => ?_)]
    · rfl
    · unfold mC
      rw [decide_eq_false (by omega)]
      rfl
  · intro n v hI
    show bX1_base_89 nW nH dk a Post (lX1_base_89 nW nH dk a Post n) v (nI (fUntil nW nH d)) 0
    unfold bX1_base_89
    refine ok1_until hs h hd (br_t (nI_le (Nat.le_refl _) (by omega)) ?_)
    have e : nCut nW nH d = cnt (mC nH d (fFrom nW nH d) (fUntil nW nH d)) (fUntil nW nH d) := by
      unfold nCut
      refine cnt_trim (by omega) (fun i hi _ => ?_)
      unfold mC
      rw [decide_eq_false (show ¬ i < fUntil nW nH d by omega)]
      simp
    rw [hI.2, ← e]
    exact hp
  · intro n i v hi hI ih
    show bX1_base_89 nW nH dk a Post (lX1_base_89 nW nH dk a Post n) v (nI i) 0
    unfold bX1_base_89
    obtain ⟨ia, hv⟩ := hI
    refine ok1_until hs h hd (br_f (nI_ge hi (by omega)) (ok1_mayCut hs h (by omega) (by omega) ?_))
    have e : cnt (mC nH d (fFrom nW nH d) (fUntil nW nH d)) (i + 1) = cnt (mC nH d (fFrom nW nH d) (fUntil nW nH d)) i + (if mayC nH d i then 1 else 0) := by
      show _ + (if mC nH d (fFrom nW nH d) (fUntil nW nH d) i = true then 1 else 0) = _
      unfold mC
      rw [decide_eq_true ia, decide_eq_true hi]
      rfl
    refine br_c (fun c => ?_) (fun c => ?_)
    · rw [bI_0] at c
      rw [c] at e
      rw [i1]
      exact ih v ⟨by omega, by rw [hv, e]; rfl⟩
    · rw [bI_0, Bool.not_eq_false] at c
      rw [c] at e
      intro x ex
      subst ex
      rw [i1]
      exact ih _ ⟨by omega, by rw [hv, e, i1]; rfl⟩
theorem ok1_base {nW nH : Nat} {d : Nat → Nat → Bool} {dk : Nat → Int32} (hs : szs nW nH) (h : hld1 nW nH d dk) {th a : Int32} {Post : Int32 → Int32 → Prop} (hp : Post (aBase nW nH d a) 0) : wX1_base nW nH dk th a Post := by
  obtain ⟨h1, h2, h3, h4⟩ := id hs
  unfold wX1_base
  refine ok1_mostInRow hs h ?_
  unfold aBase at hp
  have bM := rM_le nW nH d
  by_cases hd : rM nW nH d = 0
  · rw [if_pos hd] at hp
    rw [hd]
    exact br_t rfl hp
  · rw [if_neg hd] at hp
    have hD := hasD_iff.mpr hd
    refine br_f (nI_ne0 (by omega) (by omega)) ?_
    rcases z_sw6 a with c | c | c | c | c | c | c
    · subst c
      exact br_f (by decide) (br_t (by decide) (br_f (by decide) (br_t rfl (ok1_middle hs h hp))))
    · subst c
      exact br_f (by decide) (br_t (by decide) (br_f (by decide) (br_f (by decide) (br_t rfl (ok1_baseline hs h hp)))))
    · subst c
      exact br_f (by decide) (br_t (by decide) (br_f (by decide) (br_f (by decide) (br_f (by decide) (br_t rfl (ok1_due hs h hp))))))
    · subst c
      exact br_f (by decide) (br_t (by decide) (br_f (by decide) (br_f (by decide) (br_f (by decide) (br_f (by decide) (br_t rfl (ok1_from hs h hD hp)))))))
    · subst c
      exact br_f (by decide) (br_t (by decide) (br_f (by decide) (br_f (by decide) (br_f (by decide) (br_f (by decide) (br_f (by decide) (ok1_until hs h hD hp)))))))
    · subst c
      refine br_f (by decide) (br_t (by decide) (br_t (by decide) (ok1_from hs h hD ?_)))
      intro x ex
      subst ex
      rw [i1]
      exact ok1_count hs h hD hp
    · obtain ⟨c, c2⟩ := c
      rw [if_neg c.1, if_neg c.2.1, if_neg c.2.2.1, if_neg c.2.2.2.1, if_neg c.2.2.2.2.1, if_neg c.2.2.2.2.2] at hp
      refine br_c (fun _ => hp) (fun k => ?_)
      refine br_f ?_ hp
      rw [Int32.lt_iff_toInt_lt] at k
      rw [Int32.le_iff_toInt_le]
      have e0 : (0 : Int32).toInt = 0 := rfl
      have e5 : (5 : Int32).toInt = 5 := rfl
      rw [e0] at k
      rw [e5]
      omega
