/-! ===== the rows of places that the shelves tell of ===== -/
abbrev Al : Type := List Nat × Option (Nat × Nat)
abbrev pyA : Nat → Nat → Nat → Al → Al := fun x y i v => (x :: v.1, some (y, i))
def tA (nW nH : Nat) (d : Nat → Nat → Bool) (k : Nat) : Nat → Nat → Sh Al := tbl nW nH d k pyA ([fUntil nW nH d], none)
def phR (v : Al) : Int32 × Int32 := match v.2 with
  | none => (-1, -1)
  | some q => (nI q.1, nI q.2)
def mskL : List Nat → Int64
  | [] => 0
  | x :: v => mskL v ||| zShl 1 (nI x)
def phC (v : Al) : Int64 := mskL v.1
theorem or0 (z : Int64) : (0 : Int64) ||| z = z := lb_ext (fun i _ => by rw [lb_or, lb_0, Bool.false_or])
theorem tR_A (nW nH : Nat) (d : Nat → Nat → Bool) (m y : Nat) : tR nW nH d m y = shM phR (tA nW nH d 40 m y) := (tbl_map phR nW nH d 40 pyA pyR (fun _ _ _ _ => rfl) ([fUntil nW nH d], none) m y).symm
theorem tC_A (nW nH : Nat) (d : Nat → Nat → Bool) (k m y : Nat) : tC nW nH d k m y = shM phC (tA nW nH d k m y) := by
  have := (tbl_map phC nW nH d k pyA pyC (fun _ _ _ _ => rfl) ([fUntil nW nH d], none) m y).symm
  rw [show phC ([fUntil nW nH d], none) = zShl 1 (nI (fUntil nW nH d)) from or0 _] at this
  exact this
theorem ins_Q {α : Type} {k : Nat} {s : Sh α} {c : Nat} {x : α} (Q : α → Prop) (hk : s.1 ≤ k) (h : ∀ i, i < s.1 → Q (s.2 i).2) (hx : Q x) : ∀ i, i < (ins k s c x).1 → Q ((ins k s c x).2 i).2 := by
  intro i hi
  have hp := pos_le s c
  have hn : (ins k s c x).1 ≤ s.1 + 1 := by
    show (if s.1 < k then s.1 + 1 else k) ≤ s.1 + 1
    split <;> omega
  show Q (if i < pos s c then s.2 i else if i = pos s c then (c, x) else s.2 (i - 1)).2
  by_cases h1 : i < pos s c
  · rw [if_pos h1]
    exact h i (by omega)
  · rw [if_neg h1]
    by_cases h2 : i = pos s c
    · rw [if_pos h2]
      exact hx
    · rw [if_neg h2]
      exact h (i - 1) (by omega)
theorem gon_Q {α : Type} {k c : Nat} {pay : Nat → α → α} {sy acc : Sh α} (Q : α → Prop) (hk : acc.1 ≤ k) (h : ∀ i, i < acc.1 → Q (acc.2 i).2) : ∀ n, (∀ i, i < n → Q (pay i (sy.2 i).2)) → (gon k c pay sy acc n).1 ≤ k ∧ ∀ i, i < (gon k c pay sy acc n).1 → Q ((gon k c pay sy acc n).2 i).2
  | 0, _ => ⟨hk, h⟩
  | n + 1, hq => by
    obtain ⟨i1, i2⟩ := gon_Q Q hk h n (fun i hi => hq i (by omega))
    exact ⟨ins_le _ _ _ i1, ins_Q Q i1 i2 (hq n (by omega))⟩
theorem atx_Q {α : Type} {nW nH : Nat} {d : Nat → Nat → Bool} {k : Nat} {pay : Nat → Nat → α → α} {S : Nat → Sh α} {f : Nat → Nat × α} {a : Nat} (Q : α → Prop) : ∀ j, (∀ y, a < y → y ≤ a + j → edg nW nH d a y = true → ∀ i, i < (S y).1 → Q (pay y i ((S y).2 i).2)) → (atx nW nH d k pay S (0, f) a j).1 ≤ k ∧ ∀ i, i < (atx nW nH d k pay S (0, f) a j).1 → Q ((atx nW nH d k pay S (0, f) a j).2 i).2
  | 0, _ => ⟨Nat.zero_le _, fun i hi => absurd hi (Nat.not_lt_zero i)⟩
  | j + 1, h => by
    have ih := atx_Q (nW := nW) (nH := nH) (d := d) (k := k) (pay := pay) (S := S) (f := f) (a := a) Q j (fun y y1 y2 => h y y1 (by omega))
    show (if edg nW nH d a (a + j + 1) then _ else _ : Sh α).1 ≤ k ∧ _
    by_cases e : edg nW nH d a (a + j + 1) = true
    · have e2 : atx nW nH d k pay S (0, f) a (j + 1) = gon k (ecs nW nH d a (a + j + 1)) (pay (a + j + 1)) (S (a + j + 1)) (atx nW nH d k pay S (0, f) a j) (S (a + j + 1)).1 := by
        show (if edg nW nH d a (a + j + 1) then _ else _) = _
        rw [if_pos e]
      rw [e2, if_pos e]
      exact gon_Q Q ih.1 ih.2 _ (fun i hi => h (a + j + 1) (by omega) (by omega) e i hi)
    · have e2 : atx nW nH d k pay S (0, f) a (j + 1) = atx nW nH d k pay S (0, f) a j := by
        show (if edg nW nH d a (a + j + 1) then _ else _) = _
        rw [if_neg e]
      rw [e2, if_neg e]
      exact ih
theorem tbl_fin {α : Type} {nW nH : Nat} {d : Nat → Nat → Bool} {k : Nat} {pay : Nat → Nat → Nat → α → α} {e0 : α} {m y : Nat} (hy : fUntil nW nH d - m ≤ y) : ∀ t, m + t ≤ fUntil nW nH d → tbl nW nH d k pay e0 (m + t) y = tbl nW nH d k pay e0 m y
  | 0, _ => rfl
  | t + 1, h => by
    have : tbl nW nH d k pay e0 (m + t + 1) y = tbl nW nH d k pay e0 (m + t) y := tbl_st (by omega)
    rw [show m + (t + 1) = m + t + 1 by omega, this]
    exact tbl_fin hy t (by omega)
/-- the places go up from lo on -/
def up : Nat → List Nat → Prop
  | _, [] => True
  | lo, x :: v => lo ≤ x ∧ up (x + 1) v
theorem up_w {lo lo' : Nat} {v : List Nat} (h : up lo v) (hl : lo' ≤ lo) : up lo' v := by
  cases v with
  | nil => trivial
  | cons x v => exact ⟨Nat.le_trans hl h.1, h.2⟩
/-- a way from x on, and where it goes on -/
def wyA (nW nH : Nat) (d : Nat → Nat → Bool) (M x : Nat) (v : Al) : Prop := up x v.1 ∧ (∀ p, p ∈ v.1 → p ≤ fUntil nW nH d) ∧ (x = fUntil nW nH d → v = ([fUntil nW nH d], none)) ∧ (x < fUntil nW nH d → ∃ y i, v.2 = some (y, i) ∧ x < y ∧ y ≤ fUntil nW nH d ∧ mayS nW nH d y = true ∧ i < (tA nW nH d 40 M y).1 ∧ v.1 = x :: ((tA nW nH d 40 M y).2 i).2.1)
theorem tA_ways {nW nH : Nat} {d : Nat → Nat → Bool} (hd : hasD nW nH d) : ∀ m, m ≤ fUntil nW nH d - fFrom nW nH d → ∀ x, fUntil nW nH d - m ≤ x → x ≤ fUntil nW nH d → ∀ i, i < (tA nW nH d 40 m x).1 → wyA nW nH d (fUntil nW nH d - fFrom nW nH d) x ((tA nW nH d 40 m x).2 i).2
  | 0, _, x, h1, h2, i, hi => by
    have e : x = fUntil nW nH d := by omega
    subst e
    refine ⟨⟨Nat.le_refl _, trivial⟩, fun p hp => ?_, fun _ => rfl, fun q => absurd q (Nat.lt_irrefl _)⟩
    rw [List.mem_singleton.mp hp]
    exact Nat.le_refl _
  | m + 1, hm, x, h1, h2, i, hi => by
    obtain ⟨q1, q2, q3, q4, q5⟩ := fFrom_lt hd
    have ih := tA_ways hd m (by omega)
    by_cases e : x = fUntil nW nH d - (m + 1)
    · have eT : tA nW nH d 40 (m + 1) x = atx nW nH d 40 (pyA x) (tA nW nH d 40 m) (0, fun _ => (0, ([fUntil nW nH d], none))) x (m + 1) := by
        rw [e]
        exact tbl_at
      rw [eT] at hi ⊢
      refine (atx_Q (wyA nW nH d (fUntil nW nH d - fFrom nW nH d) x) (m + 1) (fun y y1 y2 y3 j hj => ?_)).2 i hi
      have hw := ih y (by omega) (by omega) j hj
      have eF : tA nW nH d 40 (fUntil nW nH d - fFrom nW nH d) y = tA nW nH d 40 m y := by
        have := tbl_fin (nW := nW) (nH := nH) (d := d) (k := 40) (pay := pyA) (e0 := ([fUntil nW nH d], none)) (m := m) (y := y) (by omega) (fUntil nW nH d - fFrom nW nH d - m) (by omega)
        rw [show m + (fUntil nW nH d - fFrom nW nH d - m) = fUntil nW nH d - fFrom nW nH d by omega] at this
        exact this
      refine ⟨⟨Nat.le_refl _, up_w hw.1 (by omega)⟩, fun p hp => ?_, fun q => by omega, fun _ => ⟨y, j, rfl, y1, by omega, ?_, by rw [eF]; exact hj, by rw [eF]⟩⟩
      · rcases List.mem_cons.mp hp with q | q
        · omega
        · exact hw.2.1 p q
      · rw [mayS_stp (by omega) (by omega)]
        unfold edg at y3
        rw [Bool.and_eq_true] at y3
        exact y3.1
    · have eT : tA nW nH d 40 (m + 1) x = tA nW nH d 40 m x := tbl_st e
      rw [eT] at hi ⊢
      exact ih x (by omega) h2 i hi
theorem up_len {b : Nat} : ∀ (v : List Nat) (lo : Nat), up lo v → (∀ p, p ∈ v → p ≤ b) → lo ≤ b + 1 → lo + v.length ≤ b + 1
  | [], _, _, _, h => h
  | x :: v, lo, hu, hb, _ => by
    have hx := hb x List.mem_cons_self
    have := up_len v (x + 1) hu.2 (fun p hp => hb p (List.mem_cons_of_mem _ hp)) (by omega)
    have := hu.1
    simp only [List.length_cons]
    omega
theorem msk_ok {b : Nat} (hb : b < 64) : ∀ (v : List Nat), (∀ p, p ∈ v → p ≤ b) → isMask (mskL v) (fun p => decide (p ∈ v))
  | [], _, i => by
    show lb 0 i = _
    rw [lb_0]
    simp
  | x :: v, h, i => by
    have ih := msk_ok hb v (fun p hp => h p (List.mem_cons_of_mem _ hp)) i
    have hx := h x List.mem_cons_self
    show lb (mskL v ||| zShl 1 (nI x)) i = _
    rw [lb_or, ih, lb_one x (by omega)]
    by_cases e : i = x
    · rw [decide_eq_true e, Bool.or_true]
      exact (decide_eq_true (by rw [e]; exact List.mem_cons_self)).symm
    · rw [decide_eq_false e, Bool.or_false]
      exact decide_eq_decide.mpr ⟨fun q => List.mem_cons_of_mem _ q, fun q => (List.mem_cons.mp q).resolve_left e⟩
/-! ===== what is found, as both tell it ===== -/
def okL (nW : Nat) (l : Sh (List Nat)) : Prop := l.1 ≤ 40 ∧ ∀ w, w < l.1 → (l.2 w).1 < 2 ^ 31 ∧ up 0 (l.2 w).2 ∧ (∀ p, p ∈ (l.2 w).2 → p ≤ nW) ∧ 0 < (l.2 w).2.length
def rf0 (nW : Nat) (l : Sh (List Nat)) (ff fd : Int32) (ends : Nat → Int64) (ecost : Nat → Int32) : Prop := fd = nI l.1 ∧ (0 < l.1 → ∃ f, f ≤ nW ∧ ff = nI f ∧ ∀ w, w < l.1 → ecost (40 * f + w) = nI (l.2 w).1 ∧ isMask (ends (40 * f + w)) (fun p => decide (p ∈ (l.2 w).2)))
def rf1 (l : Sh (List Nat)) (fn : Int32) (pr : Nat → Int64) (ln wy : Nat → Int32) : Prop := fn = nI l.1 ∧ ∀ w, w < l.1 → pr w = lN (l.2 w).1 ∧ ln w = nI (l.2 w).2.length ∧ ∀ j, j < (l.2 w).2.length → wy (62 * w + j) = nI ((l.2 w).2.getD j 0)
/-- the first k ways -/
def lsK (nW nH : Nat) (d : Nat → Nat → Bool) (k : Nat) : Sh (List Nat) := (if (tA nW nH d 40 (fUntil nW nH d - fFrom nW nH d) (fFrom nW nH d)).1 < k then (tA nW nH d 40 (fUntil nW nH d - fFrom nW nH d) (fFrom nW nH d)).1 else k, fun i => (((tA nW nH d 40 (fUntil nW nH d - fFrom nW nH d) (fFrom nW nH d)).2 i).1, ((tA nW nH d 40 (fUntil nW nH d - fFrom nW nH d) (fFrom nW nH d)).2 i).2.1))
theorem lsK_ok {nW nH : Nat} {d : Nat → Nat → Bool} (hs : szs nW nH) (hd : hasD nW nH d) {k : Nat} (hk : k ≤ 40) : okL nW (lsK nW nH d k) := by
  obtain ⟨q1, q2, q3, q4, q5⟩ := fFrom_lt hd
  obtain ⟨h1, h2, h3, h4⟩ := hs
  have hg := tbl_good (d := d) ⟨h1, h2, h3, h4⟩ (show 1 ≤ 40 by decide) pyA ([fUntil nW nH d], none) (by omega) (fUntil nW nH d - fFrom nW nH d) (by omega) (fFrom nW nH d) (by omega) (by omega)
  have hle : (lsK nW nH d k).1 ≤ (tA nW nH d 40 (fUntil nW nH d - fFrom nW nH d) (fFrom nW nH d)).1 ∧ (lsK nW nH d k).1 ≤ k := by
    show (if _ then _ else _ : Nat) ≤ _ ∧ (if _ then _ else _ : Nat) ≤ _
    constructor <;> split <;> omega
  refine ⟨by omega, fun w hw => ?_⟩
  have hwy := tA_ways hd (fUntil nW nH d - fFrom nW nH d) (Nat.le_refl _) (fFrom nW nH d) (by omega) (by omega) w (by omega)
  have hc := hg.2.2 w (by have := hle.1; exact Nat.lt_of_lt_of_le hw this)
  obtain ⟨w1, w2, w3, w4⟩ := hwy
  obtain ⟨y, i, -, -, -, -, -, e⟩ := w4 (by omega)
  refine ⟨?_, up_w w1 (Nat.zero_le _), fun p hp => Nat.le_trans (w2 p hp) q4, ?_⟩
  · show ((tA nW nH d 40 (fUntil nW nH d - fFrom nW nH d) (fFrom nW nH d)).2 w).1 < 2 ^ 31
    have hc : ((tA nW nH d 40 (fUntil nW nH d - fFrom nW nH d) (fFrom nW nH d)).2 w).1 ≤ 4400 * (fUntil nW nH d - fFrom nW nH d) := hc
    omega
  · show 0 < ((tA nW nH d 40 (fUntil nW nH d - fFrom nW nH d) (fFrom nW nH d)).2 w).2.1.length
    rw [e]
    exact Nat.succ_pos _
theorem lsK_0 {nW nH : Nat} {d : Nat → Nat → Bool} (hs : szs nW nH) (hd : hasD nW nH d) {k : Nat} (hk1 : 1 ≤ k) (hk : k ≤ 40) {ends : Nat → Int64} {ecost ecnt : Nat → Int32} (hr : rpC ends ecost ecnt (fFrom nW nH d) (tC nW nH d k (fUntil nW nH d - fFrom nW nH d) (fFrom nW nH d))) : rf0 nW (lsK nW nH d k) (nI (fFrom nW nH d)) (nI (tC nW nH d k (fUntil nW nH d - fFrom nW nH d) (fFrom nW nH d)).1) ends ecost ∧ (tC nW nH d k (fUntil nW nH d - fFrom nW nH d) (fFrom nW nH d)).1 = (lsK nW nH d k).1 := by
  obtain ⟨q1, q2, q3, q4, q5⟩ := fFrom_lt hd
  have hok := lsK_ok hs hd hk
  obtain ⟨h1, h2, h3, h4⟩ := id hs
  have cap := tbl_cap (d := d) hs hk1 hk (by omega) pyA ([fUntil nW nH d], none) (fUntil nW nH d - fFrom nW nH d) (by omega) (fFrom nW nH d) (by omega) (by omega)
  rw [tC_A] at hr ⊢
  have e1 : (shM phC (tA nW nH d k (fUntil nW nH d - fFrom nW nH d) (fFrom nW nH d))).1 = (lsK nW nH d k).1 := cap.1
  refine ⟨⟨by rw [e1], fun _ => ⟨fFrom nW nH d, by omega, rfl, fun w hw => ?_⟩⟩, e1⟩
  obtain ⟨r1, r2⟩ := hr
  obtain ⟨c1, c2⟩ := r2 w (by rw [e1]; exact hw)
  have ew : (tA nW nH d k (fUntil nW nH d - fFrom nW nH d) (fFrom nW nH d)).2 w = (tA nW nH d 40 (fUntil nW nH d - fFrom nW nH d) (fFrom nW nH d)).2 w := cap.2 w (by have : (tbl nW nH d k pyA ([fUntil nW nH d], none) (fUntil nW nH d - fFrom nW nH d) (fFrom nW nH d)).1 = (lsK nW nH d k).1 := cap.1; rw [this]; exact hw)
  refine ⟨?_, ?_⟩
  · rw [c1]
    show nI ((tA nW nH d k (fUntil nW nH d - fFrom nW nH d) (fFrom nW nH d)).2 w).1 = _
    rw [ew]
    rfl
  · rw [c2]
    show isMask (mskL ((tA nW nH d k (fUntil nW nH d - fFrom nW nH d) (fFrom nW nH d)).2 w).2.1) _
    rw [ew]
    exact msk_ok (b := nW) (by omega) _ (hok.2 w hw).2.2.1
