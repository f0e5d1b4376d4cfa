/-! ===== column, of the class and of the reference ===== -/
def inS (nW nH : Nat) (a1 a2 : Int32) : Prop := ¬ a1 < 0 ∧ ¬ nI nW ≤ a1 ∧ ¬ a2 < 0 ∧ a2 < nI nH
theorem inS_ex {nW nH : Nat} {a1 a2 : Int32} (hs : szs nW nH) (h : inS nW nH a1 a2) : ∃ x y : Nat, a1 = nI x ∧ a2 = nI y ∧ x < nW ∧ y < nH := by
  obtain ⟨h1, h2, h3, h4⟩ := hs
  obtain ⟨c1, c2, c3, c4⟩ := h
  obtain ⟨x, hx, rfl⟩ := nI_of c1
  obtain ⟨y, hy, rfl⟩ := nI_of c3
  rw [nI_leI (by omega) hx] at c2
  rw [nI_ltI hy (by omega)] at c4
  exact ⟨x, y, rfl, rfl, by omega, c4⟩
def setD (d : Nat → Nat → Bool) (x y : Nat) (b : Bool) : Nat → Nat → Bool := fun i j => if i = x ∧ j = y then b else d i j
def nz (a : Int32) : Bool := decide (¬ a = 0)
theorem lb_clr (n : Nat) (hn : n < 64) (v : Int64) (i : Nat) : lb (v &&& (zShl 1 (nI n) ^^^ (-1))) i = (lb v i && !decide (i = n)) := by
  rcases Nat.lt_or_ge i 64 with hi | hi
  · rw [lb_and, lb_xor, lb_one n hn, lb_m1 hi, Bool.xor_true]
  · rw [lb_big hi, lb_big hi]
    rfl
theorem lb_set (n : Nat) (hn : n < 64) (v : Int64) (i : Nat) : lb (v ||| zShl 1 (nI n)) i = (lb v i || decide (i = n)) := by
  rw [lb_or, lb_one n hn]
theorem hld0_set {nW nH : Nat} {d : Nat → Nat → Bool} {cols rows : Nat → Int64} (h : hld0 nW nH d cols rows) {x y : Nat} (hx : x < nW) (hy : y < nH) {u v : Int64} {b : Bool}
    (hu : ∀ i, lb u i = if i = y then b else lb (cols x) i) (hv : ∀ i, lb v i = if i = x then b else lb (rows y) i) : hld0 nW nH (setD d x y b) (vp_updL cols x u) (vp_updL rows y v) := by
  refine ⟨fun i hi j => ?_, fun j hj i => ?_⟩
  · unfold vp_updL setD
    by_cases e : i = x
    · subst e
      rw [if_pos rfl, hu, h.1 i hi j]
      by_cases e2 : j = y
      · subst e2
        rw [if_pos rfl, if_pos ⟨rfl, rfl⟩, decide_eq_true hy, Bool.true_and]
      · rw [if_neg e2, if_neg (fun q => e2 q.2)]
    · rw [if_neg e, if_neg (fun q => e q.1), h.1 i hi j]
  · unfold vp_updL setD
    by_cases e : j = y
    · subst e
      rw [if_pos rfl, hv, h.2 j hj i]
      by_cases e2 : i = x
      · subst e2
        rw [if_pos rfl, if_pos ⟨rfl, rfl⟩, decide_eq_true hx, Bool.true_and]
      · rw [if_neg e2, if_neg (fun q => e2 q.1)]
    · rw [if_neg e, if_neg (fun q => e q.2), h.2 j hj i]
theorem ok0_column {nW nH : Nat} {d : Nat → Nat → Bool} {cols rows : Nat → Int64} (hs : szs nW nH) (h : hld0 nW nH d cols rows) {x y : Nat} (hx : x < nW) (hy : y < nH) {a3 : Int32} {Post : (Nat → Int64) → (Nat → Int64) → Prop}
    (hp : ∀ cols' rows', hld0 nW nH (setD d x y (nz a3)) cols' rows' → Post cols' rows') : wX0_column nW nH cols rows (nI x) (nI y) a3 Post := by
  obtain ⟨h1, h2, h3, h4⟩ := id hs
  unfold wX0_column
  refine br_f (nI_pos (by omega)) (br_f (nI_ge hx (by omega)) (br_f (nI_pos (by omega)) (br_t (nI_lt hy (by omega)) (br_c (fun c => ?_) (fun c => ?_)))))
  · refine ⟨x, rfl, hx, by omega, x, rfl, hx, by omega, y, rfl, hy, by omega, y, rfl, hy, by omega, hp _ _ (hld0_set h hx hy (fun i => ?_) (fun i => ?_))⟩
    · rw [lb_clr y (by omega), show nz a3 = false by simp [nz, c]]
      by_cases e : i = y <;> simp [e]
    · rw [lb_clr x (by omega), show nz a3 = false by simp [nz, c]]
      by_cases e : i = x <;> simp [e]
  · refine ⟨x, rfl, hx, by omega, x, rfl, hx, by omega, y, rfl, hy, by omega, y, rfl, hy, by omega, hp _ _ (hld0_set h hx hy (fun i => ?_) (fun i => ?_))⟩
    · rw [lb_set y (by omega), show nz a3 = true by simp [nz, c]]
      by_cases e : i = y <;> simp [e]
    · rw [lb_set x (by omega), show nz a3 = true by simp [nz, c]]
      by_cases e : i = x <;> simp [e]
theorem hld1_set {nW nH : Nat} {d : Nat → Nat → Bool} {dk : Nat → Int32} (hs : szs nW nH) (h : hld1 nW nH d dk) {x y : Nat} (hx : x < nW) (hy : y < nH) {b : Bool} : hld1 nW nH (setD d x y b) (upd dk (60 * y + x) (if b then 1 else 0)) := by
  obtain ⟨h1, h2, h3, h4⟩ := id hs
  intro i j hi hj
  unfold upd setD
  by_cases e : i = x ∧ j = y
  · obtain ⟨rfl, rfl⟩ := e
    simp
  · rw [if_neg (by omega), if_neg e]
    exact h i j hi hj
theorem ok1_columnIn {nW nH : Nat} {d : Nat → Nat → Bool} {dk : Nat → Int32} {th : Int32} (hs : szs nW nH) (h : hld1 nW nH d dk) {x y : Nat} (hx : x < nW) (hy : y < nH) {a3 : Int32} (h3 : pZ a3) {Post : Int32 → (Nat → Int32) → Prop}
    (hp : ∀ dk', hld1 nW nH (setD d x y (nz a3)) dk' → Post 0 dk') : wX1_column nW nH th dk (nI x) (nI y) a3 Post := by
  obtain ⟨h1, h2, h5, h4⟩ := id hs
  unfold wX1_column
  refine br_f (nI_pos (by omega)) (br_f (nI_ge hx (by omega)) (br_f (nI_pos (by omega)) (br_t (nI_lt hy (by omega)) ?_)))
  unfold jX1_column_30
  refine br_t rfl ⟨60 * y + x, ?_, by omega, by omega, ?_⟩
  · rw [show (60 : Int32) = nI 60 from rfl, pk_mul, nI_add]
  · have e : vp_nar .boolean a3 = if nz a3 then 1 else 0 := by
      rcases h3 with rfl | rfl <;> decide
    rw [e]
    exact hp _ (hld1_set hs h hx hy)
theorem ok1_columnOut {nW nH : Nat} {dk : Nat → Int32} {th a1 a2 a3 : Int32} (h : ¬ inS nW nH a1 a2) {Post : Int32 → (Nat → Int32) → Prop} (hp : Post 1 dk) : wX1_column nW nH th dk a1 a2 a3 Post := by
  have go : jX1_column_25 nW nH a1 a2 a3 Post th dk := br_f (by decide) hp
  unfold wX1_column
  exact ⟨fun _ => go, fun c1 => ⟨fun _ => go, fun c2 => ⟨fun _ => go, fun c3 => ⟨fun c4 => absurd ⟨c1, c2, c3, c4⟩ h, fun _ => go⟩⟩⟩⟩
