/-! ===== the cost of a sign: columns a, a + 1 .. of it, j of them ===== -/
def gD (nH : Nat) (d : Nat → Nat → Bool) (a j : Nat) : Bool := cD nH d (a + j)
/-- a row of it: begun, interrupted, torn -/
def stT (d : Nat → Nat → Bool) (a y : Nat) : Nat → Bool × Bool × Bool
  | 0 => (false, false, false)
  | j + 1 => ((stT d a y j).1 || d (a + j) y, (stT d a y j).2.1 || ((stT d a y j).1 && !d (a + j) y), (stT d a y j).2.2 || ((stT d a y j).2.1 && d (a + j) y))
def sgN (nH : Nat) (d : Nat → Nat → Bool) (a j : Nat) : Nat := cnt (gD nH d a) j
def sgW (nH : Nat) (d : Nat → Nat → Bool) (a j : Nat) : Nat := lst (gD nH d a) j - fst (gD nH d a) j
def sgB (nH : Nat) (d : Nat → Nat → Bool) (a j : Nat) : Nat := cnt (fun y => (stT d a y j).2.2) nH
def df (w p : Nat) : Nat := if p ≤ w then w - p else p - w
def sgC (P nH : Nat) (d : Nat → Nat → Bool) (a j : Nat) : Nat := df (sgW nH d a j) P * df (sgW nH d a j) P + 5 * (sgW nH d a j - sgN nH d a j) + 2 * (sgB nH d a j - 1)
theorem df_sq : ∀ w, w < 61 → ∀ p, p < 61 → (nI w - nI p) * (nI w - nI p) = nI (df w p * df w p) := by decide +kernel
theorem df_le {w p : Nat} (hw : w ≤ 60) (hp : p ≤ 60) : df w p * df w p ≤ 3600 := by
  have h : df w p ≤ 60 := by
    unfold df
    split <;> omega
  exact Nat.mul_le_mul h h
theorem stT_it (d : Nat → Nat → Bool) (a y : Nat) : ∀ j, (stT d a y j).2.1 = true → (stT d a y j).1 = true
  | 0, h => by cases h
  | j + 1, h => by
    have ih := stT_it d a y j
    simp only [stT, Bool.or_eq_true, Bool.and_eq_true] at h ⊢
    rcases h with h | h
    · exact Or.inl (ih h)
    · exact Or.inl h.1
theorem sgN_pos {nH : Nat} {d : Nat → Nat → Bool} {a j : Nat} (h : 0 < sgN nH d a j) : fst (gD nH d a) j < lst (gD nH d a) j ∧ lst (gD nH d a) j ≤ j ∧ sgN nH d a j ≤ sgW nH d a j := by
  have hex : ∃ i, i < j ∧ gD nH d a i = true := by
    refine Classical.byContradiction (fun q => ?_)
    have : sgN nH d a j = 0 := cnt_false (fun i hi => by
      cases e : gD nH d a i with
      | false => rfl
      | true => exact absurd ⟨i, hi, e⟩ q)
    omega
  obtain ⟨i, hi, e⟩ := hex
  have h1 := fst_lt hi e
  have h2 := lst_gt hi e
  have h3 := lst_le (gD nH d a) j
  refine ⟨by omega, h3, ?_⟩
  have e1 : sgN nH d a j = cnt (gD nH d a) (lst (gD nH d a) j) := cnt_trim h3 (fun i hi1 hi2 => (lst_spec (gD nH d a) j).1 i hi1 hi2)
  obtain ⟨t, ht⟩ : ∃ t, lst (gD nH d a) j = fst (gD nH d a) j + t := ⟨lst (gD nH d a) j - fst (gD nH d a) j, by omega⟩
  rw [e1, ht, cnt_add, cnt_false (fun i hi => (fst_spec (gD nH d a) j).1 i hi), Nat.zero_add]
  have := cnt_le (fun i => gD nH d a (fst (gD nH d a) j + i)) t
  unfold sgW
  omega
theorem sgW_le {nH : Nat} {d : Nat → Nat → Bool} {a j : Nat} : sgW nH d a j ≤ j := by
  have := lst_le (gD nH d a) j
  unfold sgW
  omega
theorem sgB_le {nH : Nat} {d : Nat → Nat → Bool} {a j : Nat} : sgB nH d a j ≤ nH := cnt_le _ _
theorem sgC_le {P nH : Nat} {d : Nat → Nat → Bool} {a j : Nat} (hP : P ≤ 60) (hj : j ≤ 60) (hH : nH ≤ 40) : sgC P nH d a j ≤ 4000 := by
  have h1 := sgW_le (nH := nH) (d := d) (a := a) (j := j)
  have h2 := sgB_le (nH := nH) (d := d) (a := a) (j := j)
  have h3 := df_le (w := sgW nH d a j) (p := P) (by omega) hP
  unfold sgC
  omega
theorem ok0_signCost {w e b P : Nat} (hw : w ≤ 60) (he : e ≤ 60) (hb : b ≤ 60) (hP : P ≤ 60) {Post : Int32 → Prop} (hp : Post (nI (df w P * df w P + 5 * e + 2 * (b - 1)))) : wX0_signCost (nI w) (nI e) (nI b) (nI P) Post := by
  unfold wX0_signCost
  intro x ex
  subst ex
  unfold jX0_signCost_18
  have h3 := df_le hw hP
  rw [df_sq w (by omega) P (by omega), show (5 : Int32) = nI 5 from rfl, show (2 : Int32) = nI 2 from rfl, show (0 : Int32) = nI 0 from rfl, show (1 : Int32) = nI 1 from rfl, pk_mul, nI_add]
  refine br_c (fun c => ?_) (fun c => ?_)
  · rw [nI_eq (by omega) (by decide)] at c
    subst c
    rw [nI_add]
    exact hp
  · rw [nI_eq (by omega) (by decide)] at c
    rw [pk_sub (by omega), pk_mul, nI_add]
    exact hp
theorem ok1_isBroken {nW nH : Nat} {d : Nat → Nat → Bool} {dk : Nat → Int32} (hs : szs nW nH) (h : hld1 nW nH d dk) {a j y : Nat} (hb : a + j ≤ nW) (hy : y < nH) {Post : Int32 → Prop} (hp : Post (bI (stT d a y j).2.2)) : wX1_isBroken dk (nI a) (nI (a + j)) (nI y) Post := by
  obtain ⟨h1, h2, h3, h4⟩ := id hs
  unfold wX1_isBroken
  refine pk_loop (fun n i (s : Bool) => lX1_isBroken_12 dk (nI a) (nI (a + j)) (nI y) Post n (bI (stT d a y i).1) (bI s) (bI (stT d a y i).2.2) (nI (a + i))) (fun i s => (stT d a y i).2.2 = false → s = (stT d a y i).2.1) j 0 false (Nat.zero_le _) (fun _ => rfl) ?_ ?_
  · intro n s _
    show bX1_isBroken_12 dk (nI a) (nI (a + j)) (nI y) Post (lX1_isBroken_12 dk (nI a) (nI (a + j)) (nI y) Post n) _ _ _ (nI (a + j))
    unfold bX1_isBroken_12
    exact br_t (nI_le (Nat.le_refl _) (by omega)) ⟨bI_Z _, hp⟩
  · intro n i s hi hI ih
    show bX1_isBroken_12 dk (nI a) (nI (a + j)) (nI y) Post (lX1_isBroken_12 dk (nI a) (nI (a + j)) (nI y) Post n) _ _ _ (nI (a + i))
    unfold bX1_isBroken_12
    have hit := stT_it d a y i
    have ih : ∀ s', ((stT d a y (i + 1)).2.2 = false → s' = (stT d a y (i + 1)).2.1) → lX1_isBroken_12 dk (nI a) (nI (a + j)) (nI y) Post n (bI (stT d a y (i + 1)).1) (bI s') (bI (stT d a y (i + 1)).2.2) (nI (a + i + 1)) := ih
    simp only [stT] at ih
    generalize lX1_isBroken_12 dk (nI a) (nI (a + j)) (nI y) Post n = r at ih
    generalize (stT d a y i).1 = bg at *
    generalize (stT d a y i).2.1 = it at *
    generalize (stT d a y i).2.2 = tn at *
    have dark : ∀ {K : Int32 → Prop}, K (bI (d (a + i) y)) → wX1_isDark dk (nI (a + i)) (nI y) K := fun hk => ok1_isDark hs h (by omega) hy hk
    generalize d (a + i) y = c at *
    refine br_f (nI_ge (by omega) (by omega)) ?_
    have e70 : ∀ (s0 x6 : Bool), jX1_isBroken_70 dk (nI a) (nI (a + j)) (nI y) Post r (bI bg) (bI x6) (nI (a + i)) (bI s0) ↔ ((bg = false → wX1_isDark dk (nI (a + i)) (nI y) (fun r_1 => ((r_1 = 0 → r 0 (bI s0) (bI x6) (nI (a + i) + 1)) ∧ (¬ r_1 = 0 → r 1 (bI s0) (bI x6) (nI (a + i) + 1))))) ∧ (¬ bg = false → r 1 (bI s0) (bI x6) (nI (a + i) + 1))) := fun s0 x6 => by
      unfold jX1_isBroken_70
      rw [bI_0]
    have st70 : ∀ x6 : Bool, r (bI (bg || c)) (bI (bg && !c)) (bI x6) (nI (a + i) + 1) → jX1_isBroken_70 dk (nI a) (nI (a + j)) (nI y) Post r (bI bg) (bI x6) (nI (a + i)) (bI (bg && !c)) := fun x6 hr => by
      rw [e70]
      cases bg with
      | true => exact ⟨fun q => (by cases q), fun _ => hr⟩
      | false =>
        refine ⟨fun _ => dark ?_, fun q => absurd rfl q⟩
        cases c with
        | true => exact ⟨fun q => (by cases q), fun _ => hr⟩
        | false => exact ⟨fun _ => hr, fun q => absurd rfl q⟩
    have st48 : ∀ x6 : Bool, r (bI (bg || c)) (bI (bg && !c)) (bI x6) (nI (a + i) + 1) → jX1_isBroken_48 dk (nI a) (nI (a + j)) (nI y) Post r (bI bg) (nI (a + i)) (bI x6) := fun x6 hr => by
      have h70 := st70 x6 hr
      unfold jX1_isBroken_48
      rw [bI_0]
      cases bg with
      | false => exact ⟨fun _ => h70, fun q => absurd rfl q⟩
      | true =>
        refine ⟨fun q => (by cases q), fun _ => dark ?_⟩
        cases c with
        | true => exact ⟨fun q => (by cases q), fun _ => h70⟩
        | false => exact ⟨fun _ => h70, fun q => absurd rfl q⟩
    have fin : ∀ x6 : Bool, x6 = (tn || (it && c)) → jX1_isBroken_48 dk (nI a) (nI (a + j)) (nI y) Post r (bI bg) (nI (a + i)) (bI x6) := fun x6 e => by
      refine st48 x6 ?_
      rw [e, i1]
      refine ih (bg && !c) (fun q => ?_)
      cases tn with
      | true => cases q
      | false =>
        cases it with
        | false => rfl
        | true =>
          rw [hit rfl]
          cases c with
          | true => cases q
          | false => rfl
    rw [bI_0]
    have k0 : (tn || (it && c)) = false → jX1_isBroken_47 dk (nI a) (nI (a + j)) (nI y) Post r (bI bg) (nI (a + i)) := fun q => fin false q.symm
    have k1 : (tn || (it && c)) = true → jX1_isBroken_43 dk (nI a) (nI (a + j)) (nI y) Post r (bI bg) (nI (a + i)) := fun q => fin true q.symm
    cases tn with
    | true => exact ⟨fun q => (by cases q), fun _ => k1 rfl⟩
    | false =>
      have es := hI rfl
      subst es
      refine ⟨fun _ => ?_, fun q => absurd rfl q⟩
      rw [bI_0, bI_0]
      cases bg with
      | false =>
        refine ⟨fun _ => k0 ?_, fun q => absurd rfl q⟩
        cases s with
        | false => rfl
        | true => exact absurd (hit rfl) (by decide)
      | true =>
        refine ⟨fun q => (by cases q), fun _ => ?_⟩
        cases s with
        | false => exact ⟨fun _ => k0 rfl, fun q => absurd rfl q⟩
        | true =>
          refine ⟨fun q => (by cases q), fun _ => dark ?_⟩
          cases c with
          | true => exact ⟨fun q => (by cases q), fun _ => k1 rfl⟩
          | false => exact ⟨fun _ => k0 rfl, fun q => absurd rfl q⟩
def aSign (P nH : Nat) (d : Nat → Nat → Bool) (a j : Nat) : Int64 := if 0 < sgN nH d a j then lN (sgC P nH d a j) else -1
theorem ok1_sign {nW nH : Nat} {d : Nat → Nat → Bool} {dk : Nat → Int32} (hs : szs nW nH) (h : hld1 nW nH d dk) {P a j : Nat} (hP : P ≤ 60) (hb : a + j ≤ nW) {Post : Int64 → Prop} (hp : Post (aSign P nH d a j)) : wX1_sign nW nH (nI P) dk (nI a) (nI (a + j)) Post := by
  obtain ⟨h1, h2, h3, h4⟩ := id hs
  have dark : ∀ {i : Nat} {K : Int32 → Prop}, i < j → K (bI (gD nH d a i)) → wX1_hasDark nW nH dk (nI (a + i)) K := fun hi hk => ok1_hasDark hs h (by omega) hk
  -- the rows
  have rows : ∀ D : Nat, D ≤ 4000 → Post (lN (D + 2 * (sgB nH d a j - 1))) → ∃ n : Nat, lX1_sign_115 nW nH (nI P) dk (nI a) (nI (a + j)) Post n (lN D) 0 0 := fun D hD hq => by
    refine pk_loop (fun n i (_ : Unit) => lX1_sign_115 nW nH (nI P) dk (nI a) (nI (a + j)) Post n (lN D) (nI (cnt (fun y => (stT d a y j).2.2) i)) (nI i)) (fun i _ => True) nH 0 () (Nat.zero_le _) trivial ?_ ?_
    · intro n _ _
      show bX1_sign_115 nW nH (nI P) dk (nI a) (nI (a + j)) Post (lX1_sign_115 nW nH (nI P) dk (nI a) (nI (a + j)) Post n) _ _ (nI nH)
      unfold bX1_sign_115
      refine br_t (nI_le (Nat.le_refl _) (by omega)) ?_
      have bB : sgB nH d a j ≤ nH := sgB_le
      have eB : cnt (fun y => (stT d a y j).2.2) nH = sgB nH d a j := rfl
      rw [eB]
      refine br_c (fun c => ?_) (fun c => ?_)
      · rw [show (0 : Int32) = nI 0 from rfl, nI_leI (by omega) (by decide)] at c
        rw [show sgB nH d a j = 0 by omega] at hq
        exact hq
      · rw [show (0 : Int32) = nI 0 from rfl, nI_leI (by omega) (by decide)] at c
        rw [show (1 : Int32) = nI 1 from rfl, pk_sub (by omega), nI_l (by omega), show (2 : Int64) = lN 2 from rfl, lN_mul, lN_add]
        exact hq
    · intro n i _ hi _ ih
      have ih := ih () trivial
      show bX1_sign_115 nW nH (nI P) dk (nI a) (nI (a + j)) Post (lX1_sign_115 nW nH (nI P) dk (nI a) (nI (a + j)) Post n) _ _ (nI i)
      unfold bX1_sign_115
      have e : cnt (fun y => (stT d a y j).2.2) (i + 1) = cnt (fun y => (stT d a y j).2.2) i + (if (stT d a i j).2.2 then 1 else 0) := rfl
      rw [e] at ih
      refine br_f (nI_ge hi (by omega)) (ok1_isBroken hs h hb hi ?_)
      refine br_c (fun c => ?_) (fun c => ?_)
      · rw [bI_0] at c
        rw [c] at ih
        rw [i1]
        exact ih
      · rw [bI_0, Bool.not_eq_false] at c
        rw [c] at ih
        intro x ex
        subst ex
        rw [i1, i1]
        exact ih
  -- no dark spot, or the first of them
  unfold wX1_sign
  refine pk_loop (fun n i (_ : Unit) => lX1_sign_2 nW nH (nI P) dk (nI a) (nI (a + j)) Post n (nI (a + i))) (fun i _ => ∀ t, t < i → gD nH d a t = false) j 0 () (Nat.zero_le _) (fun t ht => absurd ht (Nat.not_lt_zero t)) ?_ ?_
  · intro n _ hI
    show bX1_sign_2 nW nH (nI P) dk (nI a) (nI (a + j)) Post (lX1_sign_2 nW nH (nI P) dk (nI a) (nI (a + j)) Post n) (nI (a + j))
    unfold bX1_sign_2 jX1_sign_21
    refine br_t (nI_le (Nat.le_refl _) (by omega)) (br_t rfl ?_)
    have e : sgN nH d a j = 0 := cnt_false hI
    unfold aSign at hp
    rw [e] at hp
    exact hp
  · intro n i _ hi hI ih
    show bX1_sign_2 nW nH (nI P) dk (nI a) (nI (a + j)) Post (lX1_sign_2 nW nH (nI P) dk (nI a) (nI (a + j)) Post n) (nI (a + i))
    unfold bX1_sign_2
    refine br_f (nI_ge (by omega) (by omega)) (dark hi ?_)
    refine br_c (fun c => ?_) (fun c => ?_)
    · rw [bI_0] at c
      rw [i1]
      exact ih () (lt_s hI c)
    · rw [bI_0, Bool.not_eq_false] at c
      have eF : fst (gD nH d a) j = i := fst_eq hi c hI
      have hN : 0 < sgN nH d a j := cnt_pos hi c
      unfold aSign at hp
      rw [if_pos hN] at hp
      obtain ⟨w1, w2, w3⟩ := sgN_pos hN
      unfold jX1_sign_21
      refine br_f (fun q => by rw [nI_eq (by omega) (by omega)] at q; omega) ?_
      intro x4 e4
      -- the last of them
      have last : ∀ n m : Nat, m ≤ j → m ≤ n → (∀ t, m ≤ t → t < j → gD nH d a t = false) → lX1_sign_35 nW nH (nI P) dk (nI a) (nI (a + j)) Post (n + 1) (nI (a + i)) (nI (a + m) - 1) := by
        intro n
        induction n with
        | zero =>
          intro m hm hmn hz
          have : gD nH d a i = false := hz i (by omega) hi
          rw [c] at this
          cases this
        | succ n ihn =>
          intro m hm hmn hz
          rcases Nat.eq_zero_or_pos m with q | q
          · subst q
            have : gD nH d a i = false := hz i (by omega) hi
            rw [c] at this
            cases this
          obtain ⟨k, rfl⟩ : ∃ k, m = k + 1 := ⟨m - 1, by omega⟩
          show bX1_sign_35 nW nH (nI P) dk (nI a) (nI (a + j)) Post (lX1_sign_35 nW nH (nI P) dk (nI a) (nI (a + j)) Post (n + 1)) (nI (a + i)) (nI (a + (k + 1)) - 1)
          unfold bX1_sign_35
          rw [show a + (k + 1) = (a + k) + 1 by omega, m1]
          refine dark (by omega) ?_
          refine br_c (fun c2 => ?_) (fun c2 => ?_)
          · rw [bI_0] at c2
            rw [am1]
            refine ihn k (by omega) (by omega) (fun t ht ht2 => ?_)
            by_cases e : t = k
            · rw [e]; exact c2
            · exact hz t (by omega) ht2
          · rw [bI_0, Bool.not_eq_false] at c2
            have eL : lst (gD nH d a) j = k + 1 := lst_eq (by omega) c2 (fun t ht ht2 => hz t (by omega) ht2)
            intro x5 e5 x6 e6
            have hik : i ≤ k := by rw [eF, eL] at w1; omega
            have eW : sgW nH d a j = k - i + 1 := by unfold sgW; rw [eF, eL]; omega
            have hw : sgW nH d a j ≤ 60 := Nat.le_trans sgW_le (by omega)
            rw [pk_sub (by omega), show (1 : Int32) = nI 1 from rfl, nI_add, show a + k - (a + i) + 1 = sgW nH d a j by omega] at e5
            have hdf := df_le hw hP
            rw [e5, df_sq _ (by omega) _ (by omega), nI_l (by omega)] at e6
            rw [show df (sgW nH d a j) P * df (sgW nH d a j) P = df (sgW nH d a j) P * df (sgW nH d a j) P + 5 * (i - i - cnt (gD nH d a) i) by omega] at e6
            subst e6
            -- the columns between
            refine pk_loop (fun n t (_ : Unit) => lX1_sign_74 nW nH (nI P) dk (nI a) (nI (a + j)) Post n (nI (a + k)) (lN (df (sgW nH d a j) P * df (sgW nH d a j) P + 5 * (t - i - cnt (gD nH d a) t))) (nI (a + t))) (fun t _ => i ≤ t ∧ cnt (gD nH d a) t ≤ t - i) (k + 1) i () (by omega) ⟨Nat.le_refl _, by rw [cnt_false (fun t ht => hI t ht)]; omega⟩ ?_ ?_
            · intro n _ hIt
              show bX1_sign_74 nW nH (nI P) dk (nI a) (nI (a + j)) Post (lX1_sign_74 nW nH (nI P) dk (nI a) (nI (a + j)) Post n) _ _ (nI (a + (k + 1)))
              unfold bX1_sign_74
              have eN : cnt (gD nH d a) (k + 1) = sgN nH d a j := by
                have := cnt_trim (f := gD nH d a) (m := k + 1) (n := j) (by omega) (fun t ht ht2 => hz t (by omega) ht2)
                exact this.symm
              refine br_t (nI_lt (by omega) (by omega)) (rows _ (by omega) ?_)
              rw [eN, show k + 1 - i - sgN nH d a j = sgW nH d a j - sgN nH d a j by omega]
              exact hp
            · intro n t _ ht hIt ih3
              have ih3 := ih3 ()
              show bX1_sign_74 nW nH (nI P) dk (nI a) (nI (a + j)) Post (lX1_sign_74 nW nH (nI P) dk (nI a) (nI (a + j)) Post n) _ _ (nI (a + t))
              unfold bX1_sign_74
              have e : cnt (gD nH d a) (t + 1) = cnt (gD nH d a) t + (if gD nH d a t then 1 else 0) := rfl
              rw [e] at ih3
              refine br_f (nI_nlt (by omega) (by omega)) (dark (by omega) ?_)
              refine br_c (fun c3 => ?_) (fun c3 => ?_)
              · rw [bI_0] at c3
                rw [c3] at ih3
                intro x ex
                rw [show (5 : Int64) = lN 5 from rfl, lN_add] at ex
                subst ex
                rw [i1]
                have ih3 := ih3 ⟨by omega, by show cnt (gD nH d a) t + 0 ≤ _; omega⟩
                rw [show df (sgW nH d a j) P * df (sgW nH d a j) P + 5 * (t - i - cnt (gD nH d a) t) + 5 = df (sgW nH d a j) P * df (sgW nH d a j) P + 5 * (t + 1 - i - (cnt (gD nH d a) t + 0)) by omega]
                exact ih3
              · rw [bI_0, Bool.not_eq_false] at c3
                rw [c3] at ih3
                rw [i1]
                have ih3 := ih3 ⟨by omega, by show cnt (gD nH d a) t + 1 ≤ _; omega⟩
                rw [show t + 1 - i - (cnt (gD nH d a) t + (if true = true then 1 else 0)) = t - i - cnt (gD nH d a) t by show t + 1 - i - (cnt (gD nH d a) t + 1) = _; omega] at ih3
                exact ih3
      subst e4
      exact ⟨_, last j j (Nat.le_refl _) (Nat.le_refl _) (fun t ht ht2 => by omega)⟩
