/-! ===== the reference's look ===== -/
def mayS (nW nH : Nat) (d : Nat → Nat → Bool) (x : Nat) : Bool := decide (x = fFrom nW nH d) || (decide (x = fUntil nW nH d) || mayC nH d x)
def vSg (nW nH : Nat) (d : Nat → Nat → Bool) (x y : Nat) : Int64 := if (mayS nW nH d x && mayS nW nH d y) = true then aSign (fDue nW nH d) nH d x (y - x) else -1
theorem nar1 : vp_nar .boolean 1 = 1 := by decide
theorem nar0 : vp_nar .boolean 0 = 0 := by decide
set_option maxHeartbeats 2000000 in
theorem ok1_look {nW nH : Nat} {d : Nat → Nat → Bool} {dk : Nat → Int32} (hs : szs nW nH) (h : hld1 nW nH d dk) (hd : hasD nW nH d) {wd : Int32} {sg : Nat → Int64} {my : Nat → Int32} {Post : Int32 → (Nat → Int64) → (Nat → Int32) → Prop}
    (hp : ∀ (sg' : Nat → Int64) (my' : Nat → Int32), (∀ x, fFrom nW nH d ≤ x → x ≤ fUntil nW nH d → my' x = bI (mayS nW nH d x)) → (∀ x y, fFrom nW nH d ≤ x → x < y → y ≤ fUntil nW nH d → sg' (61 * x + y) = vSg nW nH d x y) → Post (nI (fDue nW nH d)) sg' my') : wX1_look nW nH dk wd sg my (nI (fFrom nW nH d)) (nI (fUntil nW nH d)) Post := by
  obtain ⟨h1, h2, h3, h4⟩ := id hs
  obtain ⟨q1, q2, q3, q4, q5⟩ := fFrom_lt hd
  have hdue := fDue_le d hs
  unfold wX1_look
  refine ok1_due hs h ?_
  -- which may be cut
  refine pk_loop (fun n i (m : Nat → Int32) => lX1_look_10 nW nH dk (nI (fFrom nW nH d)) (nI (fUntil nW nH d)) Post n (nI i) (nI (fDue nW nH d)) sg m) (fun i m => fFrom nW nH d ≤ i ∧ ∀ x, fFrom nW nH d ≤ x → x < i → m x = bI (mayS nW nH d x)) (fUntil nW nH d + 1) (fFrom nW nH d) my (by omega) ⟨Nat.le_refl _, fun x x1 x2 => by omega⟩ ?_ ?_
  · intro n m hI
    have hm : ∀ x, fFrom nW nH d ≤ x → x ≤ fUntil nW nH d → m x = bI (mayS nW nH d x) := fun x x1 x2 => hI.2 x x1 (by omega)
    show bX1_look_10 nW nH dk (nI (fFrom nW nH d)) (nI (fUntil nW nH d)) Post (lX1_look_10 nW nH dk (nI (fFrom nW nH d)) (nI (fUntil nW nH d)) Post n) (nI (fUntil nW nH d + 1)) (nI (fDue nW nH d)) sg m
    unfold bX1_look_10
    refine br_t (nI_lt (by omega) (by omega)) ?_
    -- the signs
    refine pk_loop (fun n i (s : Nat → Int64) => lX1_look_52 nW nH dk (nI (fFrom nW nH d)) (nI (fUntil nW nH d)) Post n (nI i) (nI (fDue nW nH d)) s m) (fun i s => fFrom nW nH d ≤ i ∧ ∀ x y, fFrom nW nH d ≤ x → x < i → x < y → y ≤ fUntil nW nH d → s (61 * x + y) = vSg nW nH d x y) (fUntil nW nH d) (fFrom nW nH d) sg (by omega) ⟨Nat.le_refl _, fun x y x1 x2 => by omega⟩ ?_ ?_
    · intro n s hI2
      show bX1_look_52 nW nH dk (nI (fFrom nW nH d)) (nI (fUntil nW nH d)) Post (lX1_look_52 nW nH dk (nI (fFrom nW nH d)) (nI (fUntil nW nH d)) Post n) (nI (fUntil nW nH d)) (nI (fDue nW nH d)) s m
      unfold bX1_look_52
      exact br_t (nI_le (Nat.le_refl _) (by omega)) (hp s m hm (fun x y x1 x2 x3 => hI2.2 x y x1 (by omega) x2 x3))
    · intro n i s hi hI2 ih
      obtain ⟨fi, hI2⟩ := hI2
      show bX1_look_52 nW nH dk (nI (fFrom nW nH d)) (nI (fUntil nW nH d)) Post (lX1_look_52 nW nH dk (nI (fFrom nW nH d)) (nI (fUntil nW nH d)) Post n) (nI i) (nI (fDue nW nH d)) s m
      unfold bX1_look_52
      refine br_f (nI_ge hi (by omega)) ?_
      intro x4 e4
      rw [i1] at e4
      subst e4
      generalize lX1_look_52 nW nH dk (nI (fFrom nW nH d)) (nI (fUntil nW nH d)) Post n = r52 at ih
      refine pk_loop (fun n j (s : Nat → Int64) => lX1_look_62 nW nH dk (nI (fFrom nW nH d)) (nI (fUntil nW nH d)) Post r52 n (nI i) (nI j) (nI (fDue nW nH d)) s m) (fun j s => i < j ∧ (∀ x y, fFrom nW nH d ≤ x → x < i → x < y → y ≤ fUntil nW nH d → s (61 * x + y) = vSg nW nH d x y) ∧ ∀ y, i < y → y < j → s (61 * i + y) = vSg nW nH d i y) (fUntil nW nH d + 1) (i + 1) s (by omega) ⟨by omega, hI2, fun y y1 y2 => by omega⟩ ?_ ?_
      · intro n s2 hI3
        show bX1_look_62 nW nH dk (nI (fFrom nW nH d)) (nI (fUntil nW nH d)) Post r52 (lX1_look_62 nW nH dk (nI (fFrom nW nH d)) (nI (fUntil nW nH d)) Post r52 n) (nI i) (nI (fUntil nW nH d + 1)) (nI (fDue nW nH d)) s2 m
        unfold bX1_look_62
        refine br_t (nI_lt (by omega) (by omega)) ?_
        rw [i1]
        refine ih s2 ⟨by omega, fun x y x1 x2 x3 x4 => ?_⟩
        by_cases e : x = i
        · subst e
          exact hI3.2.2 y x3 (by omega)
        · exact hI3.2.1 x y x1 (by omega) x3 x4
      · intro n j s2 hj hI3 ih2
        obtain ⟨ij, hI3, hI4⟩ := hI3
        show bX1_look_62 nW nH dk (nI (fFrom nW nH d)) (nI (fUntil nW nH d)) Post r52 (lX1_look_62 nW nH dk (nI (fFrom nW nH d)) (nI (fUntil nW nH d)) Post r52 n) (nI i) (nI j) (nI (fDue nW nH d)) s2 m
        unfold bX1_look_62
        have put : ∀ v : Int64, v = vSg nW nH d i j → pIn (61 * nI i + nI j) 3721 (fun q => lX1_look_62 nW nH dk (nI (fFrom nW nH d)) (nI (fUntil nW nH d)) Post r52 n (nI i) (nI j + 1) (nI (fDue nW nH d)) (vp_updL s2 q v) m) := fun v ev => by
          refine ⟨61 * i + j, by rw [show (61 : Int32) = nI 61 from rfl, pk_mul, nI_add], by omega, by omega, ?_⟩
          dsimp only
          rw [i1]
          refine ih2 _ ⟨by omega, fun x y x1 x2 x3 x4 => ?_, fun y y1 y2 => ?_⟩
          · rw [pk_uLn (by omega)]
            exact hI3 x y x1 x2 x3 x4
          · by_cases e : y = j
            · subst e
              rw [pk_uLs]
              exact ev
            · rw [pk_uLn (by omega)]
              exact hI4 y y1 (by omega)
        refine br_f (nI_nlt (by omega) (by omega)) ⟨i, rfl, by omega, by omega, ?_⟩
        dsimp only
        rw [hm i fi (by omega)]
        refine br_c (fun c => put _ ?_) (fun c => ⟨j, rfl, by omega, by omega, ?_⟩)
        · rw [bI_0] at c
          unfold vSg
          rw [c]
          rfl
        · rw [bI_0, Bool.not_eq_false] at c
          dsimp only
          rw [hm j (by omega) (by omega)]
          refine br_c (fun c2 => put _ ?_) (fun c2 => ?_)
          · rw [bI_0] at c2
            unfold vSg
            rw [c, c2]
            rfl
          · rw [bI_0, Bool.not_eq_false] at c2
            have key : wX1_sign nW nH (nI (fDue nW nH d)) dk (nI i) (nI (i + (j - i))) (fun r_7 => pIn (61 * nI i + nI j) 3721 (fun q => lX1_look_62 nW nH dk (nI (fFrom nW nH d)) (nI (fUntil nW nH d)) Post r52 n (nI i) (nI j + 1) (nI (fDue nW nH d)) (vp_updL s2 q r_7) m)) := by
              refine ok1_sign hs h (by omega) (by omega) (put _ ?_)
              unfold vSg
              rw [c, c2]
              rfl
            rw [show i + (j - i) = j by omega] at key
            exact key
  · intro n i m hi hI ih
    obtain ⟨fi, hI⟩ := hI
    show bX1_look_10 nW nH dk (nI (fFrom nW nH d)) (nI (fUntil nW nH d)) Post (lX1_look_10 nW nH dk (nI (fFrom nW nH d)) (nI (fUntil nW nH d)) Post n) (nI i) (nI (fDue nW nH d)) sg m
    unfold bX1_look_10
    have put : ∀ v : Int32, vp_nar .boolean v = bI (mayS nW nH d i) → pIn (nI i) 61 (fun q => lX1_look_10 nW nH dk (nI (fFrom nW nH d)) (nI (fUntil nW nH d)) Post n (nI i + 1) (nI (fDue nW nH d)) sg (upd m q (vp_nar .boolean v))) := fun v ev => by
      refine ⟨i, rfl, by omega, by omega, ?_⟩
      dsimp only
      rw [i1]
      refine ih _ ⟨by omega, fun x x1 x2 => ?_⟩
      by_cases e : x = i
      · subst e
        rw [pk_us]
        exact ev
      · rw [pk_un e]
        exact hI x x1 (by omega)
    refine br_f (nI_nlt (by omega) (by omega)) ?_
    rw [nI_eq (by omega) (by omega), nI_eq (by omega) (by omega)]
    refine br_c (fun c => put 1 ?_) (fun c => br_c (fun c2 => put 1 ?_) (fun c2 => ok1_mayCut hs h (by omega) (by omega) ?_))
    · unfold mayS
      rw [decide_eq_true c, nar1]
      rfl
    · unfold mayS
      rw [decide_eq_false c, decide_eq_true c2, nar1]
      rfl
    · have e : mayS nW nH d i = mayC nH d i := by
        unfold mayS
        rw [decide_eq_false c, decide_eq_false c2, Bool.false_or, Bool.false_or]
      refine br_c (fun c3 => put 0 ?_) (fun c3 => put 1 ?_)
      · rw [bI_0] at c3
        rw [e, c3, nar0]
        rfl
      · rw [bI_0, Bool.not_eq_false] at c3
        rw [e, c3, nar1]
        rfl
