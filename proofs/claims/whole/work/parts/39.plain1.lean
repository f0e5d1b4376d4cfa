/-! ===== the reference's plain counts from the left ===== -/
def nF (nW nH : Nat) (d : Nat → Nat → Bool) : Nat → Nat → Nat
  | 0 => fun y => if y = fFrom nW nH d then 1 else 0
  | n + 1 => fun y => sm (fun x => if eE nW nH d x y = true then nF nW nH d n x else 0) (fUntil nW nH d + 1)
theorem nF_nP {nW nH : Nat} {d : Nat → Nat → Bool} (hd : hasD nW nH d) : ∀ n m, sm (fun y => nF nW nH d n y * nP nW nH d m y) (fUntil nW nH d + 1) = nP nW nH d (n + m) (fFrom nW nH d)
  | 0, m => by
    have q3 := (fFrom_lt hd).2.2.1
    rw [sm_one (x := fFrom nW nH d) (by omega) (fun i _ hne => ?_), Nat.zero_add]
    · show (if fFrom nW nH d = fFrom nW nH d then 1 else 0) * _ = _
      rw [if_pos rfl, Nat.one_mul]
    · show (if i = fFrom nW nH d then 1 else 0) * _ = 0
      rw [if_neg hne, Nat.zero_mul]
  | n + 1, m => by
    have ih := nF_nP hd n (m + 1)
    rw [show n + 1 + m = n + (m + 1) by omega, ← ih]
    have e1 : sm (fun y => nF nW nH d (n + 1) y * nP nW nH d m y) (fUntil nW nH d + 1) = sm (fun y => sm (fun x => if eE nW nH d x y = true then nF nW nH d n x * nP nW nH d m y else 0) (fUntil nW nH d + 1)) (fUntil nW nH d + 1) := sm_congr (fun y _ => by
      show sm (fun x => if eE nW nH d x y = true then nF nW nH d n x else 0) (fUntil nW nH d + 1) * nP nW nH d m y = _
      rw [Nat.mul_comm, ← sm_mul]
      refine sm_congr (fun x _ => ?_)
      by_cases e : eE nW nH d x y = true
      · rw [if_pos e, if_pos e, Nat.mul_comm]
      · rw [if_neg e, if_neg e, Nat.mul_zero])
    have e2 : sm (fun x => nF nW nH d n x * nP nW nH d (m + 1) x) (fUntil nW nH d + 1) = sm (fun x => sm (fun y => if eE nW nH d x y = true then nF nW nH d n x * nP nW nH d m y else 0) (fUntil nW nH d + 1)) (fUntil nW nH d + 1) := sm_congr (fun x _ => by
      show nF nW nH d n x * sm (fun y => if eE nW nH d x y = true then nP nW nH d m y else 0) (fUntil nW nH d + 1) = _
      rw [← sm_mul]
      refine sm_congr (fun y _ => ?_)
      by_cases e : eE nW nH d x y = true
      · rw [if_pos e, if_pos e]
      · rw [if_neg e, if_neg e, Nat.mul_zero])
    rw [e1, e2]
    exact (sm_swap (fun x y => if eE nW nH d x y = true then nF nW nH d n x * nP nW nH d m y else 0) _ _).symm
theorem nF_end {nW nH : Nat} {d : Nat → Nat → Bool} (hd : hasD nW nH d) (k : Nat) : nF nW nH d k (fUntil nW nH d) = nP nW nH d k (fFrom nW nH d) := by
  have h := nF_nP hd k 0
  rw [sm_one (x := fUntil nW nH d) (by omega) (fun i _ hne => ?_)] at h
  · have e : nP nW nH d 0 (fUntil nW nH d) = 1 := by
      show (if fUntil nW nH d = fUntil nW nH d then 1 else 0) = 1
      rw [if_pos rfl]
    rw [e, Nat.mul_one] at h
    exact h
  · show _ * (if i = fUntil nW nH d then 1 else 0) = 0
    rw [if_neg hne, Nat.mul_zero]
theorem sm_le {f : Nat → Nat} {b : Nat} : ∀ {n : Nat}, (∀ i, i < n → f i ≤ b) → sm f n ≤ n * b
  | 0, _ => Nat.zero_le _
  | n + 1, h => by
    have h1 := sm_le (fun i hi => h i (by omega) : ∀ i, i < n → f i ≤ b)
    have h2 := h n (by omega)
    show sm f n + f n ≤ (n + 1) * b
    rw [Nat.succ_mul]
    omega
theorem sat_sm (f : Nat → Nat) (p : Nat → Bool) : ∀ n, sat (sm (fun x => if p x = true then sat (f x) else 0) n) = sat (sm (fun x => if p x = true then f x else 0) n)
  | 0 => rfl
  | n + 1 => by
    show sat (sm (fun x => if p x = true then sat (f x) else 0) n + (if p n = true then sat (f n) else 0)) = sat (sm (fun x => if p x = true then f x else 0) n + (if p n = true then f n else 0))
    rw [← sat_add, sat_sm f p n]
    by_cases e : p n = true
    · rw [if_pos e, if_pos e]
      have : sat (sat (f n)) = sat (f n) := by
        unfold sat
        repeat' split
        all_goals omega
      rw [this, sat_add]
    · rw [if_neg e, if_neg e, sat_add]
theorem sat_small {a : Nat} (h : a ≤ 1000000000) : sat a = a := by unfold sat; rw [if_neg (by omega)]
theorem sat_big {a : Nat} (h : 1000000000 < a) : sat a = 1000000000 := by unfold sat; rw [if_pos h]
theorem sm_trim {f : Nat → Nat} {m : Nat} : ∀ {n : Nat}, m ≤ n → (∀ i, m ≤ i → i < n → f i = 0) → sm f n = sm f m
  | 0, h, _ => by
    have : m = 0 := by omega
    subst this
    rfl
  | n + 1, h, hz => by
    by_cases e : m = n + 1
    · subst e
      rfl
    · show sm f n + f n = sm f m
      rw [sm_trim (show m ≤ n by omega) (fun i h1 h2 => hz i h1 (by omega)), hz n (by omega) (by omega), Nat.add_zero]
theorem vSg_eE {nW nH : Nat} {d : Nat → Nat → Bool} {x y : Nat} (h1 : fFrom nW nH d ≤ x) (h2 : x < y) (h3 : y ≤ fUntil nW nH d) : vSg nW nH d x y = if eE nW nH d x y = true then lN (sgC (fDue nW nH d) nH d x (y - x)) else -1 := by
  have e : eE nW nH d x y = (mayS nW nH d x && edg nW nH d x y) := by
    unfold eE
    rw [decide_eq_true h1, decide_eq_true h2, decide_eq_true h3]
    rfl
  rw [e]
  cases hx : mayS nW nH d x with
  | true =>
    rw [vSg_edge hx (by omega) h3, Bool.true_and]
  | false =>
    unfold vSg
    rw [hx]
    rfl
set_option maxHeartbeats 4000000 in
theorem ok1_plain {nW nH : Nat} {d : Nat → Nat → Bool} {dk : Nat → Int32} (hs : szs nW nH) (h : hld1 nW nH d dk) {th wd : Int32} {ct bf sg : Nat → Int64} {my : Nat → Int32} {a : Int32} {Post : Int32 → Int32 → Int32 → (Nat → Int64) → (Nat → Int64) → (Nat → Int64) → (Nat → Int32) → Prop} (hp : ∀ (wd' : Int32) (ct' bf' sg' : Nat → Int64) (my' : Nat → Int32), Post (aPlain nW nH d a) 0 wd' ct' bf' sg' my') : wX1_plain nW nH dk th wd ct bf sg my a Post := by
  obtain ⟨h1, h2, h3, h4⟩ := id hs
  unfold wX1_plain
  have bM := rM_le nW nH d
  refine ok1_mostInRow hs h ?_
  unfold aPlain at hp
  by_cases hz : rM nW nH d = 0
  · rw [if_pos (Or.inl hz)] at hp
    rw [hz]
    exact br_t rfl (hp _ _ _ _ _)
  · have hd := hasD_iff.mpr hz
    obtain ⟨q1, q2, q3, q4, q5⟩ := fFrom_lt hd
    refine br_f (nI_ne0 (by omega) (by omega)) (br_c (fun c => ?_) (fun c => br_c (fun c2 => ?_) (fun c2 => ?_)))
    · rw [if_pos (Or.inr (Or.inl c))] at hp
      exact hp _ _ _ _ _
    · obtain ⟨k, hk, ek⟩ : ∃ k : Nat, k ≤ 60 ∧ a = nI k := by
        refine nI_of2 (M := 60) rfl (fun q => c ?_) c2
        rw [Int32.lt_iff_toInt_lt] at q ⊢
        have e0 : (0 : Int32).toInt = 0 := rfl
        have e1 : (1 : Int32).toInt = 1 := rfl
        rw [e0] at q
        rw [e1]
        omega
      have hk1 : 1 ≤ k := by
        rcases Nat.eq_zero_or_pos k with z | z
        · subst z
          rw [ek] at c
          exact absurd (by decide) c
        · exact z
      subst ek
      rw [if_neg (by
        rintro (z | z | z)
        · exact hz z
        · exact c z
        · exact z c2), nI_clamp (by omega), ← nF_end hd] at hp
      refine ok1_from hs h hd (ok1_until hs h hd (ok1_look hs h hd (fun sg' my' _ hsg => ?_)))
      -- the start
      refine pk_loop (fun n i (q : Nat → Int64) => lX1_plain_44 nW nH dk (nI k) Post n (nI (fFrom nW nH d)) (nI (fUntil nW nH d)) (nI i) 0 (nI (fDue nW nH d)) ct q sg' my') (fun i q => ∀ y, y < i → q y = lN (nF nW nH d 0 y)) 61 0 bf (Nat.zero_le _) (fun y hy => absurd hy (Nat.not_lt_zero y)) ?_ ?_
      · intro n q hI
        show bX1_plain_44 nW nH dk (nI k) Post (lX1_plain_44 nW nH dk (nI k) Post n) (nI (fFrom nW nH d)) (nI (fUntil nW nH d)) (nI 61) 0 (nI (fDue nW nH d)) ct q sg' my'
        unfold bX1_plain_44
        refine br_t (by decide) ?_
        -- sign by sign
        refine pk_loop (fun n t (q : (Nat → Int64) × (Nat → Int64)) => lX1_plain_78 nW nH dk (nI k) Post n (nI (fFrom nW nH d)) (nI (fUntil nW nH d)) (nI t) 0 (nI (fDue nW nH d)) q.1 q.2 sg' my') (fun t q => ∀ y, fFrom nW nH d ≤ y → y ≤ fUntil nW nH d → (y < fUntil nW nH d ∨ t = k) → q.2 y = lN (sat (nF nW nH d t y))) k 0 (ct, q) (Nat.zero_le _) ?_ ?_ ?_
        · intro y y1 y2 y3
          show q y = _
          rw [hI y (by omega)]
          congr 1
          show (if y = fFrom nW nH d then 1 else 0) = sat (if y = fFrom nW nH d then 1 else 0)
          split <;> rfl
        · intro n r hI2
          show bX1_plain_78 nW nH dk (nI k) Post (lX1_plain_78 nW nH dk (nI k) Post n) (nI (fFrom nW nH d)) (nI (fUntil nW nH d)) (nI k) 0 (nI (fDue nW nH d)) r.1 r.2 sg' my'
          unfold bX1_plain_78
          refine br_t (nI_le (Nat.le_refl _) (by omega)) ⟨fUntil nW nH d, rfl, by omega, by omega, ?_⟩
          dsimp only
          rw [hI2 (fUntil nW nH d) (by omega) (Nat.le_refl _) (Or.inr rfl), lN_i]
          exact hp _ _ _ _ _
        · intro n t r ht hI2 ih
          obtain ⟨ct0, bf0⟩ := r
          dsimp only at hI2
          have hbf : ∀ y, fFrom nW nH d ≤ y → y < fUntil nW nH d → bf0 y = lN (sat (nF nW nH d t y)) := fun y y1 y2 => hI2 y y1 (by omega) (Or.inl y2)
          show bX1_plain_78 nW nH dk (nI k) Post (lX1_plain_78 nW nH dk (nI k) Post n) (nI (fFrom nW nH d)) (nI (fUntil nW nH d)) (nI t) 0 (nI (fDue nW nH d)) ct0 bf0 sg' my'
          unfold bX1_plain_78
          refine br_f (nI_ge ht (by omega)) ?_
          have next : ∀ ct1 bf1 : Nat → Int64, (∀ y, fFrom nW nH d ≤ y → y ≤ fUntil nW nH d → (y < fUntil nW nH d ∨ t + 1 = k) → bf1 y = lN (sat (nF nW nH d (t + 1) y))) → lX1_plain_78 nW nH dk (nI k) Post n (nI (fFrom nW nH d)) (nI (fUntil nW nH d)) (nI t + 1) 0 (nI (fDue nW nH d)) ct1 bf1 sg' my' := fun ct1 bf1 k1 => by
            rw [i1]
            exact ih (ct1, bf1) k1
          generalize lX1_plain_78 nW nH dk (nI k) Post n = r78 at next
          -- each place
          refine pk_loop (fun n y (q : Nat → Int64) => lX1_plain_87 nW nH dk (nI k) Post r78 n (nI (fFrom nW nH d)) (nI (fUntil nW nH d)) (nI t) (nI y) 0 (nI (fDue nW nH d)) q bf0 sg' my') (fun y q => fFrom nW nH d ≤ y ∧ ∀ z, fFrom nW nH d ≤ z → z < y → q z = lN (sat (nF nW nH d (t + 1) z))) (fUntil nW nH d + 1) (fFrom nW nH d) ct0 (by omega) ⟨Nat.le_refl _, fun z z1 z2 => by omega⟩ ?_ ?_
          · intro n ct1 hI3
            obtain ⟨-, hI3⟩ := hI3
            show bX1_plain_87 nW nH dk (nI k) Post r78 (lX1_plain_87 nW nH dk (nI k) Post r78 n) (nI (fFrom nW nH d)) (nI (fUntil nW nH d)) (nI t) (nI (fUntil nW nH d + 1)) 0 (nI (fDue nW nH d)) ct1 bf0 sg' my'
            unfold bX1_plain_87
            refine br_t (nI_lt (by omega) (by omega)) ?_
            -- copied
            refine pk_loop (fun n y (q : Nat → Int64) => lX1_plain_222 nW nH dk (nI k) Post r78 n (nI (fFrom nW nH d)) (nI (fUntil nW nH d)) (nI t) (nI y) 0 (nI (fDue nW nH d)) ct1 q sg' my') (fun y q => fFrom nW nH d ≤ y ∧ ∀ z, fFrom nW nH d ≤ z → z < y → (z < fUntil nW nH d ∨ t + 1 = k) → q z = lN (sat (nF nW nH d (t + 1) z))) (fUntil nW nH d + 1) (fFrom nW nH d) bf0 (by omega) ⟨Nat.le_refl _, fun z z1 z2 => by omega⟩ ?_ ?_
            · intro n bf1 hI4
              show bX1_plain_222 nW nH dk (nI k) Post r78 (lX1_plain_222 nW nH dk (nI k) Post r78 n) (nI (fFrom nW nH d)) (nI (fUntil nW nH d)) (nI t) (nI (fUntil nW nH d + 1)) 0 (nI (fDue nW nH d)) ct1 bf1 sg' my'
              unfold bX1_plain_222
              exact br_t (nI_lt (by omega) (by omega)) (next ct1 bf1 (fun y y1 y2 y3 => hI4.2 y y1 (by omega) y3))
            · intro n y bf1 hy hI4 ih4
              obtain ⟨fy, hI4⟩ := hI4
              show bX1_plain_222 nW nH dk (nI k) Post r78 (lX1_plain_222 nW nH dk (nI k) Post r78 n) (nI (fFrom nW nH d)) (nI (fUntil nW nH d)) (nI t) (nI y) 0 (nI (fDue nW nH d)) ct1 bf1 sg' my'
              unfold bX1_plain_222
              have put : ∀ v : Int64, ((y < fUntil nW nH d ∨ t + 1 = k) → v = lN (sat (nF nW nH d (t + 1) y))) → lX1_plain_222 nW nH dk (nI k) Post r78 n (nI (fFrom nW nH d)) (nI (fUntil nW nH d)) (nI t) (nI y + 1) 0 (nI (fDue nW nH d)) ct1 (vp_updL bf1 y v) sg' my' := fun v ev => by
                rw [i1]
                refine ih4 _ ⟨by omega, fun z z1 z2 z3 => ?_⟩
                by_cases e : z = y
                · subst e
                  rw [pk_uLs]
                  exact ev z3
                · rw [pk_uLn e]
                  exact hI4 z z1 (by omega) z3
              refine br_f (nI_nlt (by omega) (by omega)) ?_
              rw [nI_eq (by omega) (by omega), show (nI k - 1 : Int32) = nI (k - 1) by rw [show (1 : Int32) = nI 1 from rfl, pk_sub hk1], nI_leI (by omega) (by omega)]
              have cp : pIn (nI y) 61 (fun j_12 => pIn (nI y) 61 (fun j_13 => lX1_plain_222 nW nH dk (nI k) Post r78 n (nI (fFrom nW nH d)) (nI (fUntil nW nH d)) (nI t) (nI y + 1) 0 (nI (fDue nW nH d)) ct1 (vp_updL bf1 j_13 (ct1 j_12)) sg' my')) := ⟨y, rfl, by omega, by omega, y, rfl, by omega, by omega, put _ (fun _ => hI3 y fy (by omega))⟩
              refine br_c (fun e => br_c (fun e2 => cp) (fun e2 => ⟨y, rfl, by omega, by omega, put _ (fun e3 => by omega)⟩)) (fun _ => cp)
          · intro n y ct1 hy hI3 ih3
            obtain ⟨fy, hI3⟩ := hI3
            show bX1_plain_87 nW nH dk (nI k) Post r78 (lX1_plain_87 nW nH dk (nI k) Post r78 n) (nI (fFrom nW nH d)) (nI (fUntil nW nH d)) (nI t) (nI y) 0 (nI (fDue nW nH d)) ct1 bf0 sg' my'
            unfold bX1_plain_87
            refine br_f (nI_nlt (by omega) (by omega)) ⟨y, rfl, by omega, by omega, ?_⟩
            dsimp only
            have put : ∀ ct2 : Nat → Int64, (∀ z, z ≠ y → ct2 z = ct1 z) → ct2 y = lN (sat (nF nW nH d (t + 1) y)) → lX1_plain_87 nW nH dk (nI k) Post r78 n (nI (fFrom nW nH d)) (nI (fUntil nW nH d)) (nI t) (nI y + 1) 0 (nI (fDue nW nH d)) ct2 bf0 sg' my' := fun ct2 e1 e2 => by
              rw [i1]
              refine ih3 _ ⟨by omega, fun z z1 z2 => ?_⟩
              by_cases e : z = y
              · rw [e]
                exact e2
              · rw [e1 z e]
                exact hI3 z z1 (by omega)
            generalize lX1_plain_87 nW nH dk (nI k) Post r78 n = r87 at put
            have tot : ∀ x, sm (fun x => if eE nW nH d x y = true then sat (nF nW nH d t x) else 0) x ≤ x * 1000000000 := fun x => sm_le (fun i _ => by
              split
              · exact sat_le _
              · exact Nat.zero_le _)
            have eqT : sat (sm (fun x => if eE nW nH d x y = true then sat (nF nW nH d t x) else 0) y) = sat (nF nW nH d (t + 1) y) := by
              rw [sat_sm (nF nW nH d t) (fun x => eE nW nH d x y)]
              show _ = sat (sm (fun x => if eE nW nH d x y = true then nF nW nH d t x else 0) (fUntil nW nH d + 1))
              have hz0 : ∀ i, y ≤ i → i < fUntil nW nH d + 1 → (fun x => if eE nW nH d x y = true then nF nW nH d t x else 0) i = 0 := fun i i1 i2 => by
                have : eE nW nH d i y = false := by
                  unfold eE
                  rw [decide_eq_false (show ¬ i < y by omega), Bool.and_false]
                  rfl
                show (if eE nW nH d i y = true then nF nW nH d t i else 0) = 0
                rw [this]
                rfl
              rw [sm_trim (f := fun x => if eE nW nH d x y = true then nF nW nH d t x else 0) (m := y) (by omega) hz0]
            -- from each place before it
            refine pk_loop (fun n x (q : Nat → Int64) => lX1_plain_104 nW nH dk (nI k) Post r78 r87 n (nI (fFrom nW nH d)) (nI (fUntil nW nH d)) (nI t) (nI y) (nI x) 0 (nI (fDue nW nH d)) q bf0 sg' my') (fun x q => fFrom nW nH d ≤ x ∧ (∀ z, z ≠ y → q z = ct1 z) ∧ q y = lN (sm (fun x => if eE nW nH d x y = true then sat (nF nW nH d t x) else 0) x)) y (fFrom nW nH d) (vp_updL ct1 y 0) fy ⟨Nat.le_refl _, fun z hz => pk_uLn hz, ?_⟩ ?_ ?_
            · rw [pk_uLs, sm_zero (fun i hi => ?_)]
              · rfl
              · have : eE nW nH d i y = false := by
                  unfold eE
                  rw [decide_eq_false (show ¬ fFrom nW nH d ≤ i by omega)]
                  rfl
                rw [this]
                rfl
            · intro n ct2 hI5
              obtain ⟨-, e1, e2⟩ := hI5
              show bX1_plain_104 nW nH dk (nI k) Post r78 r87 (lX1_plain_104 nW nH dk (nI k) Post r78 r87 n) (nI (fFrom nW nH d)) (nI (fUntil nW nH d)) (nI t) (nI y) (nI y) 0 (nI (fDue nW nH d)) ct2 bf0 sg' my'
              unfold bX1_plain_104
              refine br_t (nI_le (Nat.le_refl _) (by omega)) ⟨y, rfl, by omega, by omega, ?_⟩
              dsimp only
              have htot := tot y
              rw [e2, lg_cmp_le, show (1000000000 : Int64) = lN 1000000000 from rfl, pk_lLE (by omega) (by decide)]
              refine br_c (fun q => ⟨y, rfl, by omega, by omega, y, rfl, by omega, by omega, put _ (fun z hz => (pk_uLn hz).trans (e1 z hz)) ?_⟩) (fun q => ⟨y, rfl, by omega, by omega, put _ (fun z hz => (pk_uLn hz).trans (e1 z hz)) ?_⟩)
              · rw [pk_uLs, e2, ← eqT, sat_small q]
              · rw [pk_uLs, ← eqT, sat_big (by omega)]
            · intro n x ct2 hx hI5 ih5
              obtain ⟨fx, e1, e2⟩ := hI5
              show bX1_plain_104 nW nH dk (nI k) Post r78 r87 (lX1_plain_104 nW nH dk (nI k) Post r78 r87 n) (nI (fFrom nW nH d)) (nI (fUntil nW nH d)) (nI t) (nI y) (nI x) 0 (nI (fDue nW nH d)) ct2 bf0 sg' my'
              unfold bX1_plain_104
              have es : sm (fun x => if eE nW nH d x y = true then sat (nF nW nH d t x) else 0) (x + 1) = sm (fun x => if eE nW nH d x y = true then sat (nF nW nH d t x) else 0) x + (if eE nW nH d x y = true then sat (nF nW nH d t x) else 0) := rfl
              have go : ∀ v : Int64, v = lN (sm (fun x => if eE nW nH d x y = true then sat (nF nW nH d t x) else 0) (x + 1)) → lX1_plain_104 nW nH dk (nI k) Post r78 r87 n (nI (fFrom nW nH d)) (nI (fUntil nW nH d)) (nI t) (nI y) (nI x + 1) 0 (nI (fDue nW nH d)) (vp_updL ct2 y v) bf0 sg' my' := fun v ev => by
                rw [i1]
                exact ih5 _ ⟨by omega, fun z hz => (pk_uLn hz).trans (e1 z hz), by rw [pk_uLs]; exact ev⟩
              have same : (if eE nW nH d x y = true then sat (nF nW nH d t x) else 0) = 0 → pIn (nI y) 61 (fun j_22 => pIn (nI y) 61 (fun j_23 => lX1_plain_104 nW nH dk (nI k) Post r78 r87 n (nI (fFrom nW nH d)) (nI (fUntil nW nH d)) (nI t) (nI y) (nI x + 1) 0 (nI (fDue nW nH d)) (vp_updL ct2 j_23 (ct2 j_22)) bf0 sg' my')) := fun e0 => ⟨y, rfl, by omega, by omega, y, rfl, by omega, by omega, go _ (by rw [e2, es, e0, Nat.add_zero])⟩
              refine br_f (nI_ge hx (by omega)) ⟨x, rfl, by omega, by omega, ?_⟩
              dsimp only
              have hsl := sat_le (nF nW nH d t x)
              rw [hbf x fx (by omega), lg_cmp_le, show (0 : Int64) = lN 0 from rfl, lN_le (by omega) (by decide)]
              refine br_c (fun q => same ?_) (fun q => ⟨61 * x + y, by rw [show (61 : Int32) = nI 61 from rfl, pk_mul, nI_add], by omega, by omega, ?_⟩)
              · rw [show sat (nF nW nH d t x) = 0 by omega]
                split <;> rfl
              · dsimp only
                rw [hsg x y fx hx (by omega), vSg_eE fx hx (by omega)]
                by_cases ee : eE nW nH d x y = true
                · rw [if_pos ee]
                  have hC := sgC_le (P := fDue nW nH d) (nH := nH) (d := d) (a := x) (j := y - x) (Nat.le_trans (fDue_le d hs) (by decide)) (by omega) h4
                  refine br_f ?_ ⟨y, rfl, by omega, by omega, x, rfl, by omega, by omega, y, rfl, by omega, by omega, go _ ?_⟩
                  · rw [lg_cmp_lt, lN_lt (by omega) (by decide)]
                    omega
                  · rw [e2, hbf x fx (by omega), lN_add, es, if_pos ee]
                · rw [if_neg ee]
                  refine br_t ?_ (same (by rw [if_neg ee]))
                  rw [lg_cmp_lt]
                  decide
      · intro n i q hi hI ih
        show bX1_plain_44 nW nH dk (nI k) Post (lX1_plain_44 nW nH dk (nI k) Post n) (nI (fFrom nW nH d)) (nI (fUntil nW nH d)) (nI i) 0 (nI (fDue nW nH d)) ct q sg' my'
        unfold bX1_plain_44
        have put : ∀ v : Int64, v = lN (nF nW nH d 0 i) → pIn (nI i) 61 (fun j_34 => lX1_plain_44 nW nH dk (nI k) Post n (nI (fFrom nW nH d)) (nI (fUntil nW nH d)) (nI i + 1) 0 (nI (fDue nW nH d)) ct (vp_updL q j_34 v) sg' my') := fun v ev => by
          refine ⟨i, rfl, by omega, by omega, ?_⟩
          dsimp only
          rw [i1]
          refine ih _ (fun y hy => ?_)
          by_cases e : y = i
          · subst e
            rw [pk_uLs]
            exact ev
          · rw [pk_uLn e]
            exact hI y (by omega)
        refine br_f (nI_ge (b := 61) hi (by decide)) ?_
        rw [nI_eq (by omega) (by omega)]
        refine br_c (fun e => put 1 ?_) (fun e => put 0 ?_)
        · show _ = lN (if i = fFrom nW nH d then 1 else 0)
          rw [if_pos e]
          rfl
        · show _ = lN (if i = fFrom nW nH d then 1 else 0)
          rw [if_neg e]
          rfl
    · rw [if_pos (Or.inr (Or.inr c2))] at hp
      exact hp _ _ _ _ _
