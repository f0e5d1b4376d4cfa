/-! ===== way, cost, signs ===== -/
def idx (a : Int32) (n : Nat) : Option Nat := if 0 ≤ a.toInt ∧ a.toInt < (n : Int) then some a.toNatClampNeg else none
theorem idx_in {w n : Nat} (h : w < n) (hn : n < 2 ^ 31) : idx (nI w) n = some w := by
  unfold idx
  rw [nI_toInt (by omega), if_pos (by omega), nI_clamp (by omega)]
theorem idx_neg {a : Int32} {n : Nat} (h : a < 0) : idx a n = none := by
  unfold idx
  rw [Int32.lt_iff_toInt_lt] at h
  have e0 : (0 : Int32).toInt = 0 := rfl
  rw [e0] at h
  rw [if_neg (by omega)]
theorem idx_ge {a : Int32} {n : Nat} (hn : n < 2 ^ 31) (h : nI n ≤ a) : idx a n = none := by
  unfold idx
  rw [Int32.le_iff_toInt_le, nI_toInt hn] at h
  rw [if_neg (by omega)]
def aWay (l : Sh (List Nat)) (a b : Int32) : Int32 := match idx a l.1 with
  | none => -1
  | some w => match idx b (l.2 w).2.length with
    | none => -1
    | some j => nI ((l.2 w).2.getD j 0)
def aCost (l : Sh (List Nat)) (a : Int32) : Int64 := match idx a l.1 with
  | none => -1
  | some w => lN (l.2 w).1
def aSigns (l : Sh (List Nat)) (a : Int32) : Int32 := match idx a l.1 with
  | none => -1
  | some w => nI ((l.2 w).2.length - 1)
theorem aWay_n {l : Sh (List Nat)} {a b : Int32} (h : idx a l.1 = none) : aWay l a b = -1 := by unfold aWay; rw [h]
theorem aCost_n {l : Sh (List Nat)} {a : Int32} (h : idx a l.1 = none) : aCost l a = -1 := by unfold aCost; rw [h]
theorem aSigns_n {l : Sh (List Nat)} {a : Int32} (h : idx a l.1 = none) : aSigns l a = -1 := by unfold aSigns; rw [h]
theorem aWay_s {l : Sh (List Nat)} {a b : Int32} {w : Nat} (h : idx a l.1 = some w) (h2 : idx b (l.2 w).2.length = none) : aWay l a b = -1 := by unfold aWay; rw [h]; dsimp only; rw [h2]
theorem aWay_y {l : Sh (List Nat)} {a b : Int32} {w j : Nat} (h : idx a l.1 = some w) (h2 : idx b (l.2 w).2.length = some j) : aWay l a b = nI ((l.2 w).2.getD j 0) := by unfold aWay; rw [h]; dsimp only; rw [h2]
theorem aCost_s {l : Sh (List Nat)} {a : Int32} {w : Nat} (h : idx a l.1 = some w) : aCost l a = lN (l.2 w).1 := by unfold aCost; rw [h]
theorem aSigns_s {l : Sh (List Nat)} {a : Int32} {w : Nat} (h : idx a l.1 = some w) : aSigns l a = nI ((l.2 w).2.length - 1) := by unfold aSigns; rw [h]
theorem len61 {nW : Nat} (hW : nW ≤ 60) {l : Sh (List Nat)} (hl : okL nW l) {w : Nat} (hw : w < l.1) : (l.2 w).2.length ≤ 61 := by
  obtain ⟨-, u1, u2, -⟩ := hl.2 w hw
  have := up_len _ 0 u1 (fun p hp => Nat.le_trans (u2 p hp) hW) (by omega)
  omega
/-! the reference -/
theorem ok1_way {nW : Nat} (hW : nW ≤ 60) {l : Sh (List Nat)} (hl : okL nW l) {fn th : Int32} {pr : Nat → Int64} {ln wy : Nat → Int32} (hr : rf1 l fn pr ln wy) {a b : Int32} {Post : Int32 → Int32 → Prop} (hp : Post (aWay l a b) 0) : wX1_way fn ln wy th a b Post := by
  obtain ⟨r1, r2⟩ := hr
  have h40 := hl.1
  unfold wX1_way
  rw [r1]
  refine br_c (fun c => ?_) (fun c => br_c (fun c2 => ?_) (fun c2 => ?_))
  · rw [aWay_n (idx_neg c)] at hp
    exact hp
  · rw [aWay_n (idx_ge (by omega) c2)] at hp
    exact hp
  · rcases pk_ix a (show l.1 < 2 ^ 31 by omega) with q | q | ⟨w, hw, rfl⟩
    · exact absurd q c
    · exact absurd q c2
    · obtain ⟨-, e2, e3⟩ := r2 w hw
      have h61 := len61 hW hl hw
      have ia := idx_in hw (show l.1 < 2 ^ 31 by omega)
      refine br_c (fun c3 => ?_) (fun c3 => ⟨w, rfl, by omega, by omega, ?_⟩)
      · rw [aWay_s ia (idx_neg c3)] at hp
        exact hp
      · dsimp only
        rw [e2]
        rcases pk_ix b (show (l.2 w).2.length < 2 ^ 31 by omega) with q | q | ⟨j, hj, rfl⟩
        · exact absurd q c3
        · refine br_f (fun z => ?_) ?_
          · rw [Int32.le_iff_toInt_le] at q
            rw [Int32.lt_iff_toInt_lt] at z
            omega
          · rw [aWay_s ia (idx_ge (by omega) q)] at hp
            exact hp
        · refine br_t (nI_lt hj (by omega)) ⟨62 * w + j, by rw [show (62 : Int32) = nI 62 from rfl, pk_mul, nI_add], by omega, by omega, ?_⟩
          dsimp only
          rw [e3 j hj]
          rw [aWay_y ia (idx_in hj (by omega))] at hp
          exact hp
theorem ok1_cost {nW : Nat} {l : Sh (List Nat)} (hl : okL nW l) {fn th : Int32} {pr : Nat → Int64} {ln wy : Nat → Int32} (hr : rf1 l fn pr ln wy) {a : Int32} {Post : Int64 → Int32 → Prop} (hp : Post (aCost l a) 0) : wX1_cost fn pr th a Post := by
  obtain ⟨r1, r2⟩ := hr
  have h40 := hl.1
  unfold wX1_cost
  rw [r1]
  refine br_c (fun c => ?_) (fun c => ?_)
  · rw [aCost_n (idx_neg c)] at hp
    exact hp
  · rcases pk_ix a (show l.1 < 2 ^ 31 by omega) with q | q | ⟨w, hw, rfl⟩
    · exact absurd q c
    · refine br_f (fun z => ?_) ?_
      · rw [Int32.le_iff_toInt_le] at q
        rw [Int32.lt_iff_toInt_lt] at z
        omega
      · rw [aCost_n (idx_ge (by omega) q)] at hp
        exact hp
    · refine br_t (nI_lt hw (by omega)) ⟨w, rfl, by omega, by omega, ?_⟩
      dsimp only
      rw [(r2 w hw).1]
      rw [aCost_s (idx_in hw (by omega))] at hp
      exact hp
theorem ok1_signs {nW : Nat} (hW : nW ≤ 60) {l : Sh (List Nat)} (hl : okL nW l) {fn th : Int32} {pr : Nat → Int64} {ln wy : Nat → Int32} (hr : rf1 l fn pr ln wy) {a : Int32} {Post : Int32 → Int32 → Prop} (hp : Post (aSigns l a) 0) : wX1_signs fn ln th a Post := by
  obtain ⟨r1, r2⟩ := hr
  have h40 := hl.1
  unfold wX1_signs
  rw [r1]
  refine br_c (fun c => ?_) (fun c => ?_)
  · rw [aSigns_n (idx_neg c)] at hp
    exact hp
  · rcases pk_ix a (show l.1 < 2 ^ 31 by omega) with q | q | ⟨w, hw, rfl⟩
    · exact absurd q c
    · refine br_f (fun z => ?_) ?_
      · rw [Int32.le_iff_toInt_le] at q
        rw [Int32.lt_iff_toInt_lt] at z
        omega
      · rw [aSigns_n (idx_ge (by omega) q)] at hp
        exact hp
    · refine br_t (nI_lt hw (by omega)) ⟨w, rfl, by omega, by omega, ?_⟩
      dsimp only
      have := (hl.2 w hw).2.2.2
      rw [(r2 w hw).2.1, show (1 : Int32) = nI 1 from rfl, pk_sub (by omega)]
      rw [aSigns_s (idx_in hw (by omega))] at hp
      exact hp
/-! the class -/
theorem ok0_isFound {l : Sh (List Nat)} (hl : l.1 ≤ 40) {fd a : Int32} (hf : fd = nI l.1) {Post : Int32 → Prop} (hn : idx a l.1 = none → Post 0) (hy : ∀ w, w < l.1 → a = nI w → Post 1) : wX0_isFound fd a Post := by
  unfold wX0_isFound
  rw [hf]
  refine br_c (fun c => hn (idx_neg c)) (fun c => br_c (fun c2 => hn (idx_ge (by omega) c2)) (fun c2 => ?_))
  rcases pk_ix a (show l.1 < 2 ^ 31 by omega) with q | q | ⟨w, hw, e⟩
  · exact absurd q c
  · exact absurd q c2
  · exact hy w hw e
theorem ok0_cost {nW : Nat} (hW : nW ≤ 60) {l : Sh (List Nat)} (hl : okL nW l) {ff fd : Int32} {ends : Nat → Int64} {ecost : Nat → Int32} (hr : rf0 nW l ff fd ends ecost) {a : Int32} {Post : Int64 → Prop} (hp : Post (aCost l a)) : wX0_cost nW ff fd ecost a Post := by
  obtain ⟨r1, r2⟩ := hr
  have h40 := hl.1
  unfold wX0_cost
  refine ok0_isFound h40 r1 (fun hn => br_t rfl ?_) (fun w hw e => br_f (by decide) ?_)
  · rw [aCost_n hn] at hp
    exact hp
  · obtain ⟨f, hf, ef, hw2⟩ := r2 (by omega)
    subst e
    unfold wX0_shelf
    subst ef
    rw [show (nI f * 40 : Int32) = nI (40 * f) by rw [show (40 : Int32) = nI 40 from rfl, pk_mul, Nat.mul_comm]]
    rw [nI_add]
    refine ⟨40 * f + w, rfl, by omega, by omega, ?_⟩
    dsimp only
    rw [(hw2 w hw).1, nI_l (hl.2 w hw).1]
    rw [aCost_s (idx_in hw (by omega))] at hp
    exact hp
theorem cnt_one {x : Nat} : ∀ {n : Nat}, x < n → cnt (fun p => decide (p = x)) n = 1
  | 0, h => absurd h (Nat.not_lt_zero x)
  | n + 1, h => by
    show cnt (fun p => decide (p = x)) n + (if decide (n = x) = true then 1 else 0) = 1
    by_cases e : n = x
    · rw [decide_eq_true e, cnt_false (fun i hi => decide_eq_false (by omega))]
      rfl
    · rw [decide_eq_false e, cnt_one (show x < n by omega)]
      rfl
theorem cnt_or {f g : Nat → Bool} : ∀ {n : Nat}, (∀ i, i < n → f i = true → g i = false) → cnt (fun i => f i || g i) n = cnt f n + cnt g n
  | 0, _ => rfl
  | n + 1, h => by
    show cnt (fun i => f i || g i) n + (if (f n || g n) = true then 1 else 0) = (cnt f n + (if f n = true then 1 else 0)) + (cnt g n + (if g n = true then 1 else 0))
    rw [cnt_or (fun i hi => h i (by omega))]
    have := h n (by omega)
    cases e1 : f n with
    | true =>
      rw [this e1]
      simp
      omega
    | false =>
      cases g n <;> simp <;> omega
theorem cnt_list : ∀ (v : List Nat) (lo n : Nat), up lo v → (∀ p, p ∈ v → p < n) → cnt (fun p => decide (p ∈ v)) n = v.length
  | [], _, n, _, _ => cnt_false (fun i _ => decide_eq_false List.not_mem_nil)
  | x :: v, lo, n, hu, hb => by
    have ih := cnt_list v (x + 1) n hu.2 (fun p hp => hb p (List.mem_cons_of_mem _ hp))
    have low : ∀ (v : List Nat) (lo p : Nat), up lo v → p ∈ v → lo ≤ p := by
      intro v
      induction v with
      | nil => intro lo p _ hp; cases hp
      | cons y v ihv =>
        intro lo p hu hp
        rcases List.mem_cons.mp hp with e | e
        · rw [e]; exact hu.1
        · have := ihv (y + 1) p hu.2 e
          have := hu.1
          omega
    have e : cnt (fun p => decide (p ∈ x :: v)) n = cnt (fun p => decide (p = x) || decide (p ∈ v)) n := cnt_congr (fun p _ => by
      by_cases h1 : p = x
      · rw [decide_eq_true h1, Bool.true_or]
        exact decide_eq_true (by rw [h1]; exact List.mem_cons_self)
      · rw [decide_eq_false h1, Bool.false_or]
        exact decide_eq_decide.mpr ⟨fun q => (List.mem_cons.mp q).resolve_left h1, fun q => List.mem_cons_of_mem _ q⟩)
    rw [e, cnt_or (fun i _ hi => ?_), cnt_one (hb x List.mem_cons_self), ih, List.length_cons]
    · omega
    · rw [decide_eq_true_iff] at hi
      rw [decide_eq_false_iff_not, hi]
      intro q
      have := low v (x + 1) x hu.2 q
      omega
theorem ok0_signs {nW : Nat} (hW : nW ≤ 60) {l : Sh (List Nat)} (hl : okL nW l) {ff fd : Int32} {ends : Nat → Int64} {ecost : Nat → Int32} (hr : rf0 nW l ff fd ends ecost) {a : Int32} {Post : Int32 → Prop} (hp : Post (aSigns l a)) : wX0_signs nW ff fd ends a Post := by
  obtain ⟨r1, r2⟩ := hr
  have h40 := hl.1
  unfold wX0_signs
  refine ok0_isFound h40 r1 (fun hn => br_t rfl ?_) (fun w hw e => br_f (by decide) ?_)
  · rw [aSigns_n hn] at hp
    exact hp
  · obtain ⟨f, hf, ef, hw2⟩ := r2 (by omega)
    subst e
    unfold wX0_shelf
    subst ef
    rw [show (nI f * 40 : Int32) = nI (40 * f) by rw [show (40 : Int32) = nI 40 from rfl, pk_mul, Nat.mul_comm]]
    rw [nI_add]
    refine ⟨40 * f + w, rfl, by omega, by omega, ok_bitCount ?_⟩
    obtain ⟨-, u1, u2, u3⟩ := hl.2 w hw
    have e : pop (ends (40 * f + w)) = (l.2 w).2.length := by
      unfold pop
      rw [cnt_congr (fun i _ => (hw2 w hw).2 i)]
      exact cnt_list _ 0 64 u1 (fun p hp => by have := u2 p hp; omega)
    rw [e, show (1 : Int32) = nI 1 from rfl, pk_sub (by omega)]
    rw [aSigns_s (idx_in hw (by omega))] at hp
    exact hp
theorem up_ge : ∀ (v : List Nat) (lo p : Nat), up lo v → p ∈ v → lo ≤ p := by
  intro v
  induction v with
  | nil => intro lo p _ hp; cases hp
  | cons y v ihv =>
    intro lo p hu hp
    rcases List.mem_cons.mp hp with e | e
    · rw [e]; exact hu.1
    · have := ihv (y + 1) p hu.2 e
      have := hu.1
      omega
set_option maxHeartbeats 1000000 in
theorem ok0_way {nW : Nat} (hW : nW ≤ 60) {l : Sh (List Nat)} (hl : okL nW l) {ff fd : Int32} {ends : Nat → Int64} {ecost : Nat → Int32} (hr : rf0 nW l ff fd ends ecost) {a b : Int32} {Post : Int32 → Prop} (hp : Post (aWay l a b)) : wX0_way nW ff fd ends a b Post := by
  obtain ⟨r1, r2⟩ := hr
  have h40 := hl.1
  unfold wX0_way
  refine ok0_isFound h40 r1 (fun hn => br_t rfl ?_) (fun w hw e => br_f (by decide) ?_)
  · rw [aWay_n hn] at hp
    exact hp
  · obtain ⟨f, hf, ef, hw2⟩ := r2 (by omega)
    subst e
    have ia := idx_in hw (show l.1 < 2 ^ 31 by omega)
    refine br_c (fun c => ?_) (fun c => ?_)
    · obtain ⟨j, hj, rfl⟩ : ∃ j : Nat, j < 2 ^ 31 ∧ b = nI j := nI_of (fun q => by
        rw [Int32.lt_iff_toInt_lt] at q
        rw [Int32.le_iff_toInt_le] at c
        omega)
      unfold wX0_shelf
      subst ef
      rw [show (nI f * 40 : Int32) = nI (40 * f) by rw [show (40 : Int32) = nI 40 from rfl, pk_mul, Nat.mul_comm]]
      rw [nI_add]
      refine ⟨40 * f + w, rfl, by omega, by omega, ?_⟩
      intro x3 e3
      obtain ⟨-, u1, u2, u3⟩ := hl.2 w hw
      have hm := (hw2 w hw).2
      rw [← e3] at hm
      have h61 := len61 hW hl hw
      generalize ev : (l.2 w).2 = v at *
      have hin : ∀ j', j' < v.length → j = j' → Post (nI (v.getD j' 0)) := fun j' hj' e => by
        subst e
        rw [aWay_y ia (by rw [ev]; exact idx_in hj' (by omega)), ev] at hp
        exact hp
      have hout : v.length ≤ j → Post (-1) := fun hge => by
        rw [aWay_s ia (by rw [ev]; exact idx_ge (by omega) (nI_le hge hj))] at hp
        exact hp
      refine pk_loop (fun n i (k : Nat) => lX0_way_35 nW (nI f) fd ends (nI w) (nI j) Post n x3 (nI k) (nI i)) (fun i k => k ≤ j ∧ ∃ pre post, v = pre ++ post ∧ pre.length = k ∧ (∀ p, p ∈ pre → p < i) ∧ up i post) (nW + 1) 0 0 (Nat.zero_le _) ⟨Nat.zero_le _, [], v, rfl, rfl, fun p hp => (by cases hp), u1⟩ ?_ ?_
      · intro n k hI
        obtain ⟨kj, pre, post, e1, e2, e3, e4⟩ := hI
        show bX0_way_35 nW (nI f) fd ends (nI w) (nI j) Post (lX0_way_35 nW (nI f) fd ends (nI w) (nI j) Post n) x3 (nI k) (nI (nW + 1))
        unfold bX0_way_35
        refine br_t (nI_lt (by omega) (by omega)) (hout ?_)
        have : post = [] := by
          cases post with
          | nil => rfl
          | cons y t =>
            have h5 := u2 y (by rw [e1]; exact List.mem_append_right _ List.mem_cons_self)
            have h6 := e4.1
            omega
        rw [e1, this, List.append_nil]
        omega
      · intro n i k hi hI ih
        obtain ⟨kj, pre, post, e1, e2, e3, e4⟩ := hI
        show bX0_way_35 nW (nI f) fd ends (nI w) (nI j) Post (lX0_way_35 nW (nI f) fd ends (nI w) (nI j) Post n) x3 (nI k) (nI i)
        unfold bX0_way_35
        have hlen : pre.length ≤ v.length := by rw [e1, List.length_append]; omega
        refine br_f (fun q => by rw [nI_ltI (by omega) (by omega)] at q; omega) (ok_has (by omega) ?_)
        have hmi : lb x3 i = decide (i ∈ v) := hm i
        rw [hmi, i1]
        by_cases hiv : i ∈ v
        · rw [decide_eq_true hiv]
          obtain ⟨t, et⟩ : ∃ t, post = i :: t := by
            cases post with
            | nil =>
              rw [e1, List.append_nil] at hiv
              have := e3 i hiv
              omega
            | cons y t =>
              rw [e1] at hiv
              rcases List.mem_append.mp hiv with q | q
              · have := e3 i q
                omega
              · rcases List.mem_cons.mp q with q | q
                · exact ⟨t, by rw [q]⟩
                · have h5 := up_ge t (y + 1) i e4.2 q
                  have h6 := e4.1
                  omega
          have hv : v.getD k 0 = i := by
            rw [e1, et, getD_app, if_neg (by omega), ← e2, Nat.sub_self]
            rfl
          have hkl : k < v.length := by
            rw [e1, et, List.length_append, List.length_cons]
            omega
          refine br_f (by decide) (br_c (fun q => ?_) (fun q => ?_))
          · rw [nI_eq (by omega) hj] at q
            have := hin k hkl q.symm
            rw [hv] at this
            exact this
          · rw [nI_eq (by omega) hj] at q
            rw [i1]
            refine ih (k + 1) ⟨by omega, pre ++ [i], t, by rw [e1, et, List.append_assoc]; rfl, by rw [List.length_append, e2]; rfl, fun p hp => ?_, ?_⟩
            · rcases List.mem_append.mp hp with z | z
              · have := e3 p z
                omega
              · rw [List.mem_singleton.mp z]
                omega
            · rw [et] at e4
              exact e4.2
        · rw [decide_eq_false hiv]
          refine br_t rfl (ih k ⟨kj, pre, post, e1, e2, fun p hp => by have := e3 p hp; omega, ?_⟩)
          cases post with
          | nil => trivial
          | cons y t =>
            have : y ≠ i := fun q => hiv (by rw [e1, q]; exact List.mem_append_right _ List.mem_cons_self)
            exact ⟨by have := e4.1; omega, e4.2⟩
    · rw [aWay_s ia (idx_neg (by
        rw [Int32.le_iff_toInt_le] at c
        rw [Int32.lt_iff_toInt_lt]
        omega))] at hp
      exact hp
