/-! ===== plain: how many ways have k signs ===== -/
def sm (f : Nat → Nat) : Nat → Nat
  | 0 => 0
  | n + 1 => sm f n + f n
theorem sm_congr {f g : Nat → Nat} : ∀ {n : Nat}, (∀ i, i < n → f i = g i) → sm f n = sm g n
  | 0, _ => rfl
  | n + 1, h => by
    show sm f n + f n = sm g n + g n
    rw [sm_congr (fun i hi => h i (by omega)), h n (by omega)]
theorem sm_add (f g : Nat → Nat) : ∀ n, sm (fun i => f i + g i) n = sm f n + sm g n
  | 0 => rfl
  | n + 1 => by
    show sm (fun i => f i + g i) n + (f n + g n) = (sm f n + f n) + (sm g n + g n)
    rw [sm_add f g n]
    omega
theorem sm_zero {f : Nat → Nat} : ∀ {n : Nat}, (∀ i, i < n → f i = 0) → sm f n = 0
  | 0, _ => rfl
  | n + 1, h => by
    show sm f n + f n = 0
    rw [sm_zero (fun i hi => h i (by omega)), h n (by omega)]
theorem sm_mul (c : Nat) (f : Nat → Nat) : ∀ n, sm (fun i => c * f i) n = c * sm f n
  | 0 => rfl
  | n + 1 => by
    show sm (fun i => c * f i) n + c * f n = c * (sm f n + f n)
    rw [sm_mul c f n, Nat.mul_add]
theorem sm_swap (a : Nat → Nat → Nat) (m : Nat) : ∀ n, sm (fun x => sm (fun y => a x y) m) n = sm (fun y => sm (fun x => a x y) n) m
  | 0 => (sm_zero (fun _ _ => rfl)).symm
  | n + 1 => by
    show sm (fun x => sm (fun y => a x y) m) n + sm (fun y => a n y) m = _
    rw [sm_swap a m n, ← sm_add]
    rfl
theorem sm_one {f : Nat → Nat} {x : Nat} : ∀ {n : Nat}, x < n → (∀ i, i < n → i ≠ x → f i = 0) → sm f n = f x
  | 0, h, _ => absurd h (Nat.not_lt_zero x)
  | n + 1, h, hz => by
    show sm f n + f n = f x
    by_cases e : x = n
    · subst e
      rw [sm_zero (fun i hi => hz i (by omega) (by omega)), Nat.zero_add]
    · rw [sm_one (show x < n by omega) (fun i hi => hz i (by omega)), hz n (by omega) (fun q => e q.symm), Nat.add_zero]
def sat (a : Nat) : Nat := if 1000000000 < a then 1000000000 else a
theorem sat_le (a : Nat) : sat a ≤ 1000000000 := by
  unfold sat
  split <;> omega
theorem sat_add (a b : Nat) : sat (sat a + sat b) = sat (a + b) := by
  unfold sat
  repeat' split
  all_goals omega
theorem sat_0 : sat 0 = 0 := by decide
/-- a sign from x to y, both of which may be places of a way -/
def eE (nW nH : Nat) (d : Nat → Nat → Bool) (x y : Nat) : Bool := (decide (fFrom nW nH d ≤ x) && decide (x < y)) && (decide (y ≤ fUntil nW nH d) && (mayS nW nH d x && edg nW nH d x y))
/-- ends of j signs that start at x -/
def nP (nW nH : Nat) (d : Nat → Nat → Bool) : Nat → Nat → Nat
  | 0 => fun x => if x = fUntil nW nH d then 1 else 0
  | j + 1 => fun x => sm (fun y => if eE nW nH d x y = true then nP nW nH d j y else 0) (fUntil nW nH d + 1)
/-- .. at a stop from p on -/
def nS (nW nH : Nat) (d : Nat → Nat → Bool) (j p : Nat) : Nat := sm (fun q => if (decide (p ≤ q) && stp nW nH d q) = true then nP nW nH d j q else 0) (fUntil nW nH d + 1)
theorem stp_U (nW nH : Nat) (d : Nat → Nat → Bool) : stp nW nH d (fUntil nW nH d) = true := by
  unfold stp
  rw [decide_eq_true rfl, Bool.or_true]
theorem nS_0 {nW nH : Nat} {d : Nat → Nat → Bool} {p : Nat} (hp : p ≤ fUntil nW nH d) : nS nW nH d 0 p = 1 := by
  unfold nS
  rw [sm_one (x := fUntil nW nH d) (by omega) (fun i hi hne => ?_)]
  · rw [stp_U, decide_eq_true hp]
    show (if fUntil nW nH d = fUntil nW nH d then 1 else 0) = 1
    rw [if_pos rfl]
  · have : nP nW nH d 0 i = 0 := by
      show (if i = fUntil nW nH d then 1 else 0) = 0
      rw [if_neg hne]
    rw [this]
    split <;> rfl
theorem nP_U (nW nH : Nat) (d : Nat → Nat → Bool) (j : Nat) : nP nW nH d (j + 1) (fUntil nW nH d) = 0 := by
  show sm (fun y => if eE nW nH d (fUntil nW nH d) y = true then nP nW nH d j y else 0) (fUntil nW nH d + 1) = 0
  refine sm_zero (fun y hy => ?_)
  have : eE nW nH d (fUntil nW nH d) y = false := by
    unfold eE
    rw [decide_eq_false (show ¬ fUntil nW nH d < y by omega), Bool.and_false]
    rfl
  rw [this]
  rfl
theorem nS_U (nW nH : Nat) (d : Nat → Nat → Bool) (j : Nat) : nS nW nH d (j + 1) (fUntil nW nH d) = 0 := by
  unfold nS
  refine sm_zero (fun q hq => ?_)
  by_cases e : q = fUntil nW nH d
  · rw [e, nP_U]
    split <;> rfl
  · rw [decide_eq_false (show ¬ fUntil nW nH d ≤ q by omega)]
    rfl
theorem nS_s {nW nH : Nat} {d : Nat → Nat → Bool} {j p : Nat} (hp : p ≤ fUntil nW nH d) : nS nW nH d j p = nS nW nH d j (p + 1) + (if stp nW nH d p = true then nP nW nH d j p else 0) := by
  have key : nS nW nH d j p = sm (fun q => (if (decide (p + 1 ≤ q) && stp nW nH d q) = true then nP nW nH d j q else 0) + (if (decide (q = p) && stp nW nH d q) = true then nP nW nH d j q else 0)) (fUntil nW nH d + 1) := by
    unfold nS
    refine sm_congr (fun q _ => ?_)
    rcases Nat.lt_trichotomy q p with z | z | z
    · rw [decide_eq_false (show ¬ p ≤ q by omega), decide_eq_false (show ¬ p + 1 ≤ q by omega), decide_eq_false (show ¬ q = p by omega)]
      rfl
    · rw [decide_eq_true (show p ≤ q by omega), decide_eq_false (show ¬ p + 1 ≤ q by omega), decide_eq_true z]
      cases stp nW nH d q <;> simp
    · rw [decide_eq_true (show p ≤ q by omega), decide_eq_true (show p + 1 ≤ q by omega), decide_eq_false (show ¬ q = p by omega)]
      cases stp nW nH d q <;> simp
  rw [key, sm_add, sm_one (x := p) (f := fun q => if (decide (q = p) && stp nW nH d q) = true then nP nW nH d j q else 0) (by omega) (fun i _ hne => by rw [decide_eq_false hne]; rfl), decide_eq_true rfl]
  rfl
/-- a sign may end behind its first dark column -/
theorem nP_dark {nW nH : Nat} {d : Nat → Nat → Bool} {j p c : Nat} (h1 : fFrom nW nH d ≤ p) (hm : mayS nW nH d p = true) (hpc : p ≤ c) (hc : cD nH d c = true) (hz : ∀ x, p ≤ x → x < c → cD nH d x = false) : nP nW nH d (j + 1) p = nS nW nH d j (c + 1) := by
  show sm (fun y => if eE nW nH d p y = true then nP nW nH d j y else 0) (fUntil nW nH d + 1) = _
  unfold nS
  refine sm_congr (fun y hy => ?_)
  have : eE nW nH d p y = (decide (c + 1 ≤ y) && stp nW nH d y) := by
    unfold eE edg
    rw [decide_eq_true h1, hm, decide_eq_true (show y ≤ fUntil nW nH d by omega), Bool.true_and, Bool.true_and, Bool.true_and]
    by_cases z : c + 1 ≤ y
    · have hN : 0 < sgN nH d p (y - p) := cnt_pos (i := c - p) (by omega) (by unfold gD; rw [show p + (c - p) = c by omega]; exact hc)
      rw [decide_eq_true z, decide_eq_true (show p < y by omega), decide_eq_true hN, Bool.and_true]
    · have hN : ¬ 0 < sgN nH d p (y - p) := by
        have : sgN nH d p (y - p) = 0 := cnt_false (fun i hi => hz (p + i) (by omega) (by omega))
        omega
      rw [decide_eq_false z, decide_eq_false hN, Bool.and_false, Bool.and_false]
      rfl
  rw [this]
theorem satM {a b : Nat} (ha : a ≤ 1000000000) (hb : b ≤ 1000000000) : zMin 1000000000 (nI a + nI b) = nI (sat (a + b)) := by
  rw [nI_add, show (1000000000 : Int32) = nI 1000000000 from rfl, zMin_nI (by decide) (by omega)]
  congr 1
  unfold sat
  repeat' split
  all_goals omega
set_option maxHeartbeats 2000000 in
theorem ok0_lengthen {nW nH : Nat} {d : Nat → Nat → Bool} {cols rows : Nat → Int64} (hs : szs nW nH) (h : hld0 nW nH d cols rows) (hd : hasD nW nH d) {j : Nat} {m : Int64} (hm : isMask m (mC nH d (fFrom nW nH d) (fUntil nW nH d))) {tails longer : Nat → Int32} (ht : ∀ p, fFrom nW nH d < p → p ≤ fUntil nW nH d → tails p = nI (sat (nS nW nH d j p))) {Post : (Nat → Int32) → (Nat → Int32) → Prop}
    (hp : ∀ tails' longer' : Nat → Int32, (∀ p, fFrom nW nH d < p → p ≤ fUntil nW nH d → tails' p = nI (sat (nS nW nH d (j + 1) p))) → Post tails' longer') : wX0_lengthenTails nW cols tails longer (nI (fFrom nW nH d)) (nI (fUntil nW nH d)) m Post := by
  obtain ⟨h1, h2, h3, h4⟩ := id hs
  obtain ⟨q1, q2, q3, q4, q5⟩ := fFrom_lt hd
  unfold wX0_lengthenTails
  intro x5 e5
  refine ⟨fUntil nW nH d, rfl, by omega, by omega, ?_⟩
  intro x6 e6
  rw [show (nI (fUntil nW nH d) - 1 : Int32) = nI (fUntil nW nH d - 1) by rw [show (1 : Int32) = nI 1 from rfl, pk_sub (by omega)]] at e5 e6
  subst e5
  subst e6
  have go := pk_loopD (fun n t (q : Nat × (Nat → Int32)) => fFrom nW nH d + t < fUntil nW nH d → lX0_lengthenTails_17 nW cols (nI (fFrom nW nH d)) (nI (fUntil nW nH d)) m Post n (nI q.1) (nI (fFrom nW nH d + t)) tails q.2) (fun t q => (fFrom nW nH d + t + 1 < fUntil nW nH d → fFrom nW nH d + t < q.1 ∧ q.1 < fUntil nW nH d ∧ cD nH d q.1 = true ∧ ∀ c, fFrom nW nH d + t < c → c < q.1 → cD nH d c = false) ∧ ∀ p, fFrom nW nH d + t < p → p ≤ fUntil nW nH d → q.2 p = nI (sat (nS nW nH d (j + 1) p))) ?_ ?_ (fUntil nW nH d - 1 - fFrom nW nH d) (fUntil nW nH d - 1, upd longer (fUntil nW nH d) 0) ⟨fun q => by omega, fun p p1 p2 => by
      have e : p = fUntil nW nH d := by omega
      subst e
      rw [nS_U, sat_0]
      exact pk_us⟩ (by omega)
  · rw [show fFrom nW nH d + (fUntil nW nH d - 1 - fFrom nW nH d) = fUntil nW nH d - 1 by omega] at go
    exact ⟨_, go⟩
  · intro n q hI _
    show bX0_lengthenTails_17 nW cols (nI (fFrom nW nH d)) (nI (fUntil nW nH d)) m Post (lX0_lengthenTails_17 nW cols (nI (fFrom nW nH d)) (nI (fUntil nW nH d)) m Post n) (nI q.1) (nI (fFrom nW nH d + 0)) tails q.2
    unfold bX0_lengthenTails_17
    refine br_t (nI_le (by omega) (by omega)) ⟨fFrom nW nH d + 1, fFrom nW nH d + 1, fUntil nW nH d - fFrom nW nH d, i1 _, i1 _, pk_sub (by omega), by omega, by omega, by omega, by omega, hp _ _ (fun p p1 p2 => ?_)⟩
    rw [pk_cpy_in (by omega) (by omega), show fFrom nW nH d + 1 + (p - (fFrom nW nH d + 1)) = p by omega]
    exact hI.2 p (by omega) p2
  · intro n t q hI ih hlt
    obtain ⟨nd, lg⟩ := q
    obtain ⟨hnd, hlg⟩ := hI
    dsimp only at hnd hlg
    show bX0_lengthenTails_17 nW cols (nI (fFrom nW nH d)) (nI (fUntil nW nH d)) m Post (lX0_lengthenTails_17 nW cols (nI (fFrom nW nH d)) (nI (fUntil nW nH d)) m Post n) (nI nd) (nI (fFrom nW nH d + (t + 1))) tails lg
    unfold bX0_lengthenTails_17
    obtain ⟨p, hpp⟩ : ∃ p, fFrom nW nH d + (t + 1) = p := ⟨_, rfl⟩
    rw [hpp] at hnd hlg hlt ⊢
    have hFp : fFrom nW nH d < p := by omega
    -- with the first dark column from here on
    have rest : ∀ c : Nat, p ≤ c → c < fUntil nW nH d → cD nH d c = true → (∀ x, p ≤ x → x < c → cD nH d x = false) → jX0_lengthenTails_39 nW cols (nI (fFrom nW nH d)) (nI (fUntil nW nH d)) m Post (lX0_lengthenTails_17 nW cols (nI (fFrom nW nH d)) (nI (fUntil nW nH d)) m Post n) (nI c) (nI p) tails lg := fun c hpc hcU hc hz => by
      unfold jX0_lengthenTails_39
      have hst : mC nH d (fFrom nW nH d) (fUntil nW nH d) p = stp nW nH d p := by
        unfold stp
        rw [decide_eq_false (show ¬ p = fUntil nW nH d by omega), Bool.or_false]
      have put : ∀ s : Nat, s ≤ 1000000000 → sat (nS nW nH d (j + 1) p) = sat (sat (nS nW nH d (j + 1) (p + 1)) + s) → jX0_lengthenTails_61 nW cols (nI (fFrom nW nH d)) (nI (fUntil nW nH d)) m Post (lX0_lengthenTails_17 nW cols (nI (fFrom nW nH d)) (nI (fUntil nW nH d)) m Post n) (nI c) (nI p) (nI s) tails lg := fun s hs1 es => by
        unfold jX0_lengthenTails_61
        rw [i1]
        refine ⟨p + 1, rfl, by omega, by omega, p, rfl, by omega, by omega, ?_⟩
        dsimp only
        rw [hlg (p + 1) (by omega) (by omega), satM (sat_le _) hs1, ← es, ← hpp, show fFrom nW nH d + (t + 1) = (fFrom nW nH d + t) + 1 by omega, pk_m1]
        refine ih (c, upd lg ((fFrom nW nH d + t) + 1) (nI (sat (nS nW nH d (j + 1) ((fFrom nW nH d + t) + 1))))) ⟨fun _ => ⟨by show _ < c; omega, hcU, hc, fun x x1 x2 => hz x (by omega) x2⟩, fun p' p1 p2 => ?_⟩ (by omega)
        show upd lg ((fFrom nW nH d + t) + 1) _ p' = _
        by_cases e : p' = (fFrom nW nH d + t) + 1
        · rw [e, pk_us]
        · rw [pk_un e]
          exact hlg p' (by omega) p2
      refine ok_has (by omega) ?_
      rw [hm p, hst]
      have hS := nS_s (nW := nW) (nH := nH) (d := d) (j := j + 1) (p := p) (by omega)
      refine br_c (fun q => ?_) (fun q => ?_)
      · have e : stp nW nH d p = false := by
          cases e : stp nW nH d p with
          | false => rfl
          | true => rw [e] at q; exact absurd q (by decide)
        rw [e] at hS
        refine put 0 (by decide) ?_
        have hS : nS nW nH d (j + 1) p = nS nW nH d (j + 1) (p + 1) + 0 := hS
        rw [hS, ← sat_add, sat_0]
      · have e : stp nW nH d p = true := by
          cases e : stp nW nH d p with
          | true => rfl
          | false => rw [e] at q; exact absurd rfl q
        rw [e] at hS
        have hS : nS nW nH d (j + 1) p = nS nW nH d (j + 1) (p + 1) + nP nW nH d (j + 1) p := hS
        rw [nP_dark (by omega) (by rw [mayS_stp hFp (by omega)]; exact e) hpc hc hz] at hS
        rw [i1]
        refine ⟨c + 1, rfl, by omega, by omega, ?_⟩
        dsimp only
        rw [ht (c + 1) (by omega) (by omega)]
        refine put _ (sat_le _) ?_
        rw [hS, ← sat_add]
    refine br_f (nI_ge hFp (by omega)) ⟨p, rfl, by omega, by omega, ?_⟩
    refine br_c (fun q => ?_) (fun q => ?_)
    · rw [lg_cmp_eq, cols_eq0 hs h (by omega)] at q
      have hpU : p + 1 < fUntil nW nH d := by
        rcases Nat.lt_or_ge (p + 1) (fUntil nW nH d) with z | z
        · exact z
        · rw [show p = fUntil nW nH d - 1 by omega, q5] at q
          cases q
      obtain ⟨n1, n2, n3, n4⟩ := hnd hpU
      refine rest nd (by omega) n2 n3 (fun x x1 x2 => ?_)
      by_cases e : x = p
      · rw [e]; exact q
      · exact n4 x (by omega) x2
    · rw [lg_cmp_eq, cols_ne0 hs h (by omega)] at q
      exact rest p (Nat.le_refl _) (by omega) q (fun x x1 x2 => by omega)
def aPlain (nW nH : Nat) (d : Nat → Nat → Bool) (a : Int32) : Int32 := if rM nW nH d = 0 ∨ a < 1 ∨ ¬ a ≤ 60 then 0 else nI (sat (nP nW nH d a.toNatClampNeg (fFrom nW nH d)))
theorem nP_far {nW nH : Nat} {d : Nat → Nat → Bool} : ∀ j x, x ≤ fUntil nW nH d → fUntil nW nH d < x + j → nP nW nH d j x = 0
  | 0, x, h1, h2 => by omega
  | j + 1, x, h1, h2 => by
    show sm (fun y => if eE nW nH d x y = true then nP nW nH d j y else 0) (fUntil nW nH d + 1) = 0
    refine sm_zero (fun y hy => ?_)
    by_cases e : eE nW nH d x y = true
    · rw [if_pos e]
      unfold eE at e
      simp only [Bool.and_eq_true, decide_eq_true_eq] at e
      exact nP_far j y (by omega) (by omega)
    · rw [if_neg e]
theorem ok0_plain {nW nH : Nat} {d : Nat → Nat → Bool} {cols rows : Nat → Int64} (hs : szs nW nH) (h : hld0 nW nH d cols rows) {tails longer : Nat → Int32} {a : Int32} {Post : Int32 → (Nat → Int32) → (Nat → Int32) → Prop} (hp : ∀ tails' longer' : Nat → Int32, Post (aPlain nW nH d a) tails' longer') : wX0_plain nW cols tails longer a Post := by
  obtain ⟨h1, h2, h3, h4⟩ := id hs
  unfold wX0_plain
  refine ok0_firstDark hs h ?_
  unfold aPlain at hp
  by_cases hz : rM nW nH d = 0
  · rw [if_pos (Or.inl hz)] at hp
    exact br_t (ansF_no hz) (hp _ _)
  · have hd := hasD_iff.mpr hz
    obtain ⟨q1, q2, q3, q4, q5⟩ := fFrom_lt hd
    rw [ansF_yes hz]
    refine br_f (nI_m1 (by omega)) (br_c (fun c => ?_) (fun c => br_c (fun c2 => ?_) (fun c2 => ?_)))
    · rw [if_pos (Or.inr (Or.inl c))] at hp
      exact hp _ _
    · obtain ⟨k, hk, ek⟩ : ∃ k : Nat, k ≤ nW ∧ a = nI k := by
        refine nI_of2 (M := nI nW) (nI_toInt (by omega)) (fun q => c ?_) c2
        rw [Int32.lt_iff_toInt_lt] at q ⊢
        have e0 : (0 : Int32).toInt = 0 := rfl
        have e1 : (1 : Int32).toInt = 1 := rfl
        rw [e0] at q
        rw [e1]
        omega
      have hk1 : 1 ≤ k := by
        rcases Nat.eq_zero_or_pos k with z | z
        · subst z
          rw [ek] at c
          exact absurd (by decide) c
        · exact z
      subst ek
      rw [if_neg (by
        rintro (z | z | z)
        · exact hz z
        · exact c z
        · exact z (nI_le (b := 60) (by omega) (by decide))), nI_clamp (by omega)] at hp
      refine ok0_lastDark hs h ?_
      intro x3 e3
      rw [ansL_yes hz] at e3
      subst e3
      refine ok0_places hs h q4 q1 (fun m hm => ?_)
      refine pk_loop (fun n i (q : Nat → Int32) => lX0_plain_43 nW cols (nI k) Post n (nI (fFrom nW nH d)) (nI (fUntil nW nH d)) m (nI i) q longer) (fun i q => ∀ p, p < i → q p = 1) (fUntil nW nH d + 1) 0 tails (Nat.zero_le _) (fun p hp => absurd hp (Nat.not_lt_zero p)) ?_ ?_
      · intro n q hI
        show bX0_plain_43 nW cols (nI k) Post (lX0_plain_43 nW cols (nI k) Post n) (nI (fFrom nW nH d)) (nI (fUntil nW nH d)) m (nI (fUntil nW nH d + 1)) q longer
        unfold bX0_plain_43
        refine br_t (nI_lt (by omega) (by omega)) ?_
        refine pk_loop (fun n i (q : (Nat → Int32) × (Nat → Int32)) => lX0_plain_66 nW cols (nI k) Post n (nI (fFrom nW nH d)) (nI (fUntil nW nH d)) m (nI i) q.1 q.2) (fun i q => 1 ≤ i ∧ ∀ p, fFrom nW nH d < p → p ≤ fUntil nW nH d → q.1 p = nI (sat (nS nW nH d (i - 1) p))) k 1 (q, longer) hk1 ⟨Nat.le_refl _, fun p p1 p2 => ?_⟩ ?_ ?_
        · show q p = _
          rw [hI p (by omega), show (1 : Nat) - 1 = 0 from rfl, nS_0 p2]
          rfl
        · intro n r hI2
          show bX0_plain_66 nW cols (nI k) Post (lX0_plain_66 nW cols (nI k) Post n) (nI (fFrom nW nH d)) (nI (fUntil nW nH d)) m (nI k) r.1 r.2
          unfold bX0_plain_66
          rw [i1]
          refine br_t (nI_le (Nat.le_refl _) (by omega)) ⟨fFrom nW nH d + 1, rfl, by omega, by omega, ?_⟩
          dsimp only
          rw [hI2.2 _ (by omega) (by omega)]
          have e := nP_dark (nW := nW) (nH := nH) (d := d) (j := k - 1) (Nat.le_refl (fFrom nW nH d)) (by unfold mayS; rw [decide_eq_true rfl]; rfl) (Nat.le_refl _) q2 (fun x x1 x2 => by omega)
          rw [show k - 1 + 1 = k by omega] at e
          rw [← e]
          exact hp _ _
        · intro n i r hi hI2 ih
          obtain ⟨t0, g0⟩ := r
          obtain ⟨i1', hI2⟩ := hI2
          dsimp only at hI2
          show bX0_plain_66 nW cols (nI k) Post (lX0_plain_66 nW cols (nI k) Post n) (nI (fFrom nW nH d)) (nI (fUntil nW nH d)) m (nI i) t0 g0
          unfold bX0_plain_66
          refine br_f (nI_ge hi (by omega)) (ok0_lengthen hs h hd hm hI2 (fun t1 g1 k1 => ?_))
          rw [i1]
          refine ih (t1, g1) ⟨by omega, fun p p1 p2 => ?_⟩
          show t1 p = _
          rw [k1 p p1 p2, show i - 1 + 1 = i + 1 - 1 by omega]
      · intro n i q hi hI ih
        show bX0_plain_43 nW cols (nI k) Post (lX0_plain_43 nW cols (nI k) Post n) (nI (fFrom nW nH d)) (nI (fUntil nW nH d)) m (nI i) q longer
        unfold bX0_plain_43
        refine br_f (nI_nlt (by omega) (by omega)) ⟨i, rfl, by omega, by omega, ?_⟩
        dsimp only
        rw [i1]
        refine ih _ (fun p hp => ?_)
        by_cases e : p = i
        · rw [e, pk_us]
        · rw [pk_un e]
          exact hI p (by omega)
    · by_cases z : a ≤ 60
      · obtain ⟨k, hk, ek⟩ : ∃ k : Nat, k ≤ 60 ∧ a = nI k := by
          refine nI_of2 (M := 60) rfl (fun q => c ?_) z
          rw [Int32.lt_iff_toInt_lt] at q ⊢
          have e0 : (0 : Int32).toInt = 0 := rfl
          have e1 : (1 : Int32).toInt = 1 := rfl
          rw [e0] at q
          rw [e1]
          omega
        subst ek
        rw [nI_leI (by omega) (by omega)] at c2
        rw [if_neg (by
          rintro (y | y | y)
          · exact hz y
          · exact c y
          · exact y z), nI_clamp (by omega), nP_far k _ (by omega) (by omega), sat_0] at hp
        exact hp _ _
      · rw [if_pos (Or.inr (Or.inr z))] at hp
        exact hp _ _
