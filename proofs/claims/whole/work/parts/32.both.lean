/-! ===== one table for both: with more told of each; with shorter shelves ===== -/
def shM {α β : Type} (φ : α → β) (s : Sh α) : Sh β := (s.1, fun i => ((s.2 i).1, φ (s.2 i).2))
theorem pos_map {α β : Type} (φ : α → β) (s : Sh α) (c : Nat) : pos (shM φ s) c = pos s c := rfl
theorem ins_map {α β : Type} (φ : α → β) (k : Nat) (s : Sh α) (c : Nat) (x : α) : shM φ (ins k s c x) = ins k (shM φ s) c (φ x) := by
  unfold shM ins
  refine Prod.ext rfl ?_
  funext i
  show ((if i < pos s c then s.2 i else if i = pos s c then (c, x) else s.2 (i - 1)).1, φ (if i < pos s c then s.2 i else if i = pos s c then (c, x) else s.2 (i - 1)).2) = (if i < pos s c then ((s.2 i).1, φ (s.2 i).2) else if i = pos s c then (c, φ x) else ((s.2 (i - 1)).1, φ (s.2 (i - 1)).2))
  by_cases h1 : i < pos s c
  · rw [if_pos h1, if_pos h1]
  · rw [if_neg h1, if_neg h1]
    by_cases h2 : i = pos s c
    · rw [if_pos h2, if_pos h2]
    · rw [if_neg h2, if_neg h2]
theorem gon_map {α β : Type} (φ : α → β) (k c : Nat) (pay : Nat → α → α) (pay' : Nat → β → β) (hp : ∀ n v, φ (pay n v) = pay' n (φ v)) (sy acc : Sh α) : ∀ n, shM φ (gon k c pay sy acc n) = gon k c pay' (shM φ sy) (shM φ acc) n
  | 0 => rfl
  | n + 1 => by
    show shM φ (ins k (gon k c pay sy acc n) (c + (sy.2 n).1) (pay n (sy.2 n).2)) = _
    rw [ins_map, gon_map φ k c pay pay' hp sy acc n, hp]
    rfl
theorem atx_map {α β : Type} (φ : α → β) (nW nH : Nat) (d : Nat → Nat → Bool) (k : Nat) (pay : Nat → Nat → α → α) (pay' : Nat → Nat → β → β) (hp : ∀ y n v, φ (pay y n v) = pay' y n (φ v)) (S : Nat → Sh α) (z : Sh α) (a : Nat) : ∀ j, shM φ (atx nW nH d k pay S z a j) = atx nW nH d k pay' (fun y => shM φ (S y)) (shM φ z) a j
  | 0 => rfl
  | j + 1 => by
    show shM φ (if edg nW nH d a (a + j + 1) then _ else _) = (if edg nW nH d a (a + j + 1) then _ else _)
    have ih := atx_map φ nW nH d k pay pay' hp S z a j
    by_cases e : edg nW nH d a (a + j + 1) = true
    · rw [if_pos e, if_pos e, gon_map φ k _ (pay (a + j + 1)) (pay' (a + j + 1)) (hp (a + j + 1)), ih]
      rfl
    · rw [if_neg e, if_neg e, ih]
theorem tbl_map {α β : Type} (φ : α → β) (nW nH : Nat) (d : Nat → Nat → Bool) (k : Nat) (pay : Nat → Nat → Nat → α → α) (pay' : Nat → Nat → Nat → β → β) (hp : ∀ x y n v, φ (pay x y n v) = pay' x y n (φ v)) (e0 : α) : ∀ m y, shM φ (tbl nW nH d k pay e0 m y) = tbl nW nH d k pay' (φ e0) m y
  | 0, y => rfl
  | m + 1, y => by
    have ih : (fun z => shM φ (tbl nW nH d k pay e0 m z)) = tbl nW nH d k pay' (φ e0) m := funext (tbl_map φ nW nH d k pay pay' hp e0 m)
    show shM φ (if y = fUntil nW nH d - (m + 1) then _ else _) = (if y = fUntil nW nH d - (m + 1) then _ else _)
    by_cases e : y = fUntil nW nH d - (m + 1)
    · rw [if_pos e, if_pos e, atx_map φ nW nH d k (pay y) (pay' y) (hp y), ih]
      rfl
    · rw [if_neg e, if_neg e, tbl_map φ nW nH d k pay pay' hp e0 m y]
/-! a shorter shelf is the beginning of a longer one -/
def relK {α : Type} (k : Nat) (s t : Sh α) : Prop := s.1 = (if t.1 < k then t.1 else k) ∧ ∀ i, i < s.1 → s.2 i = t.2 i
theorem relK_srt {α : Type} {k : Nat} {s t : Sh α} (h : relK k s t) (ht : srt t) : srt s := by
  obtain ⟨h1, h2⟩ := h
  have hle : s.1 ≤ t.1 := by rw [h1]; split <;> omega
  intro i j hij hj
  rw [h2 i (by omega), h2 j hj]
  exact ht i j hij (by omega)
theorem pos_rel {α : Type} {k : Nat} {s t : Sh α} (h : relK k s t) (ht : srt t) (c : Nat) : pos s c = if pos t c < k then pos t c else k := by
  have hs := relK_srt h ht
  obtain ⟨h1, h2⟩ := h
  have p1 := pos_le s c
  have p2 := pos_le t c
  have hle : s.1 ≤ t.1 ∧ s.1 ≤ k := by rw [h1]; split <;> omega
  have key : ∀ i, i < s.1 → (i < pos s c ↔ i < pos t c) := fun i hi => by
    rw [← pos_iff hs hi, ← pos_iff ht (show i < t.1 by omega), h2 i hi]
  by_cases z : pos t c < k
  · rw [if_pos z]
    have hps : pos t c ≤ s.1 := by rw [h1]; split <;> omega
    rcases Nat.lt_trichotomy (pos s c) (pos t c) with q | q | q
    · have := (key (pos s c) (by omega)).mpr q
      omega
    · exact q
    · have := (key (pos t c) (by omega)).mp q
      omega
  · rw [if_neg z]
    have e : s.1 = k := by rw [h1, if_neg (by omega)]
    rcases Nat.lt_or_ge (pos s c) k with q | q
    · have := (key (pos s c) (by omega)).mpr (by omega)
      omega
    · omega
theorem ins_cap {α : Type} {k : Nat} {s t : Sh α} (h : relK k s t) (ht : srt t) (hn : t.1 ≤ 40) (hk : k ≤ 40) (c : Nat) (x : α) : relK k (ins k s c x) (ins 40 t c x) := by
  have hp := pos_rel h ht c
  obtain ⟨h1, h2⟩ := h
  have p2 := pos_le t c
  have hle : s.1 ≤ t.1 ∧ s.1 ≤ k := by rw [h1]; split <;> omega
  have e1 : (ins k s c x).1 = if s.1 < k then s.1 + 1 else k := rfl
  have e2 : (ins 40 t c x).1 = if t.1 < 40 then t.1 + 1 else 40 := rfl
  refine ⟨?_, fun i hi => ?_⟩
  · rw [e1, e2, h1]
    repeat' split
    all_goals omega
  · have hi2 : i < k ∧ i ≤ s.1 := by
      rw [e1] at hi
      split at hi <;> omega
    show (if i < pos s c then s.2 i else if i = pos s c then (c, x) else s.2 (i - 1)) = (if i < pos t c then t.2 i else if i = pos t c then (c, x) else t.2 (i - 1))
    by_cases z : pos t c < k
    · rw [hp, if_pos z]
      by_cases a1 : i < pos t c
      · rw [if_pos a1, if_pos a1, h2 i (by rw [h1]; split <;> omega)]
      · rw [if_neg a1, if_neg a1]
        by_cases a2 : i = pos t c
        · rw [if_pos a2, if_pos a2]
        · rw [if_neg a2, if_neg a2, h2 (i - 1) (by omega)]
    · rw [hp, if_neg z, if_pos hi2.1, if_pos (by omega), h2 i (by rw [h1]; split <;> omega)]
/-- so many of them are not dearer than C -/
def lowN {α : Type} (C n : Nat) (s : Sh α) : Prop := n ≤ s.1 ∧ ∀ i, i < n → (s.2 i).1 ≤ C
theorem ins_low {α : Type} {k C n c : Nat} {s : Sh α} {x : α} (hs : srt s) (hl : lowN C n s) (hk : s.1 ≤ k) (hn : n < k) (hc : c ≤ C) : lowN C (n + 1) (ins k s c x) := by
  obtain ⟨h1, h2⟩ := hl
  have hp := pos_le s c
  refine ⟨?_, fun i hi => ?_⟩
  · show n + 1 ≤ if s.1 < k then s.1 + 1 else k
    split <;> omega
  · show (if i < pos s c then s.2 i else if i = pos s c then (c, x) else s.2 (i - 1)).1 ≤ C
    by_cases a1 : i < pos s c
    · rw [if_pos a1]
      have := (pos_iff (c := c) hs (show i < s.1 by omega)).mpr a1
      omega
    · rw [if_neg a1]
      by_cases a2 : i = pos s c
      · rw [if_pos a2]
        exact hc
      · rw [if_neg a2]
        exact h2 (i - 1) (by omega)
theorem gon_low {α : Type} {k c : Nat} {pay : Nat → α → α} {sy acc : Sh α} (hsy : srt sy) (ha : srt acc) (hn : acc.1 ≤ k) {C : Nat} : ∀ n, n ≤ k → (∀ i, i < n → c + (sy.2 i).1 ≤ C) → lowN C n (gon k c pay sy acc n)
  | 0, _, _ => ⟨Nat.zero_le _, fun i hi => absurd hi (Nat.not_lt_zero i)⟩
  | n + 1, hk, h => by
    obtain ⟨B, hB⟩ : ∃ B, (∀ i, i < acc.1 → (acc.2 i).1 ≤ B) ∧ ∀ i, i < n → c + (sy.2 i).1 ≤ B := ⟨mx (fun i => (acc.2 i).1) acc.1 + C, fun i hi => Nat.le_trans (mx_ge (fun i => (acc.2 i).1) _ i hi) (Nat.le_add_right _ _), fun i hi => Nat.le_trans (h i (by omega)) (Nat.le_add_left _ _)⟩
    obtain ⟨g1, g2, -⟩ := gon_inv (pay := pay) ha hn hB.1 n hB.2
    exact ins_low g1 (gon_low hsy ha hn n (by omega) (fun i hi => h i (by omega))) g2 (by omega) (h n (by omega))
theorem gon_cap {α : Type} {k c : Nat} (hk : k ≤ 40) {pay : Nat → α → α} {sy ty acc acc' : Sh α} (hy : relK k sy ty) (hty : srt ty) (ha : relK k acc acc') (hta : srt acc') (hna : acc'.1 ≤ 40) : relK k (gon k c pay sy acc sy.1) (gon 40 c pay ty acc' ty.1) := by
  obtain ⟨y1, y2⟩ := hy
  have hsyt : sy.1 ≤ ty.1 ∧ sy.1 ≤ k := by rw [y1]; split <;> omega
  have bd : ∀ n, srt (gon 40 c pay ty acc' n) ∧ (gon 40 c pay ty acc' n).1 ≤ 40 := fun n => by
    obtain ⟨g1, g2, -⟩ := gon_inv (k := 40) (B := mx (fun i => (acc'.2 i).1) acc'.1 + mx (fun i => c + (ty.2 i).1) n) (pay := pay) (sy := ty) (c := c) hta hna (fun i hi => Nat.le_trans (mx_ge (fun i => (acc'.2 i).1) _ i hi) (Nat.le_add_right _ _)) n (fun i hi => Nat.le_trans (mx_ge (fun i => c + (ty.2 i).1) _ i hi) (Nat.le_add_left _ _))
    exact ⟨g1, g2⟩
  have first : ∀ n, n ≤ sy.1 → relK k (gon k c pay sy acc n) (gon 40 c pay ty acc' n) := by
    intro n
    induction n with
    | zero => intro _; exact ha
    | succ n ih =>
      intro hn
      show relK k (ins k _ (c + (sy.2 n).1) (pay n (sy.2 n).2)) (ins 40 _ (c + (ty.2 n).1) (pay n (ty.2 n).2))
      rw [y2 n (by omega)]
      exact ins_cap (ih (by omega)) (bd n).1 (bd n).2 hk _ _
  by_cases z : ty.1 < k
  · rw [if_pos z] at y1
    have := first sy.1 (Nat.le_refl _)
    rw [← y1]
    exact this
  · rw [if_neg z] at y1
    have start := first k (by omega)
    rw [y1]
    have hacc : acc.1 ≤ k := by rw [ha.1]; split <;> omega
    have rest : ∀ n, k ≤ n → n ≤ ty.1 → relK k (gon k c pay sy acc k) (gon 40 c pay ty acc' n) := by
      intro n
      induction n with
      | zero =>
        intro h0 _
        have : k = 0 := by omega
        subst this
        exact start
      | succ n ih =>
        intro hn hn2
        by_cases e : k = n + 1
        · rw [← e]
          exact start
        · have r := ih (by omega) (by omega)
          have low := gon_low (C := c + (ty.2 n).1) (k := k) (c := c) (pay := pay) (sy := sy) (acc := acc) (relK_srt ⟨by rw [y1, if_neg z], y2⟩ hty) (relK_srt ha hta) hacc k (Nat.le_refl _) (fun i hi => by
            rw [y2 i (by omega)]
            have := hty i n (by omega) (by omega)
            omega)
          have cap := ins_cap r (bd n).1 (bd n).2 hk (c + (ty.2 n).1) (pay n (ty.2 n).2)
          have hsz : (gon k c pay sy acc k).1 = k := by
            have := low.1
            have := r.1
            split at this <;> omega
          have full := ins_full (x := pay n (ty.2 n).2) hsz low.2
          refine ⟨?_, fun i hi => ?_⟩
          · rw [full.1]
            exact cap.1
          · rw [full.2 i hi]
            exact cap.2 i (by rw [← full.1]; exact hi)
    exact rest ty.1 (by omega) (Nat.le_refl _)
theorem atx_cap {α : Type} {nW nH : Nat} {d : Nat → Nat → Bool} (hs : szs nW nH) {k U : Nat} (hk : k ≤ 40) (hU : U ≤ 60) {pay : Nat → Nat → α → α} {S T : Nat → Sh α} {f : Nat → Nat × α} {a : Nat} (h : ∀ y, a < y → y ≤ U → relK k (S y) (T y) ∧ good 40 U y (T y)) : ∀ j, a + j ≤ U → relK k (atx nW nH d k pay S (0, f) a j) (atx nW nH d 40 pay T (0, f) a j)
  | 0, _ => ⟨by show 0 = if 0 < k then 0 else k; split <;> omega, fun i hi => absurd hi (Nat.not_lt_zero i)⟩
  | j + 1, hj => by
    have ih := atx_cap (d := d) hs hk hU (pay := pay) (f := f) h j (by omega)
    have hg := atx_good (d := d) (k := 40) (pay := pay) (f := f) hs hU (fun y y1 y2 _ => (h y y1 y2).2) j (by omega)
    show relK k (if edg nW nH d a (a + j + 1) then _ else _) (if edg nW nH d a (a + j + 1) then _ else _)
    by_cases e : edg nW nH d a (a + j + 1) = true
    · rw [if_pos e, if_pos e]
      obtain ⟨r, g⟩ := h (a + j + 1) (by omega) (by omega)
      exact gon_cap hk r g.1 ih hg.1 hg.2.1
    · rw [if_neg e, if_neg e]
      exact ih
theorem tbl_cap {α : Type} {nW nH : Nat} {d : Nat → Nat → Bool} (hs : szs nW nH) {k : Nat} (hk1 : 1 ≤ k) (hk : k ≤ 40) (hU : fUntil nW nH d ≤ 60) (pay : Nat → Nat → Nat → α → α) (e0 : α) : ∀ m, m ≤ fUntil nW nH d → ∀ y, fUntil nW nH d - m ≤ y → y ≤ fUntil nW nH d → relK k (tbl nW nH d k pay e0 m y) (tbl nW nH d 40 pay e0 m y)
  | 0, _, y, _, _ => ⟨by show 1 = if 1 < k then 1 else k; split <;> omega, fun _ _ => rfl⟩
  | m + 1, hm, y, h1, h2 => by
    have ih := tbl_cap hs hk1 hk hU pay e0 m (by omega)
    show relK k (if y = fUntil nW nH d - (m + 1) then _ else _) (if y = fUntil nW nH d - (m + 1) then _ else _)
    by_cases e : y = fUntil nW nH d - (m + 1)
    · rw [if_pos e, if_pos e]
      exact atx_cap hs hk hU (fun z z1 z2 => ⟨ih z (by omega) z2, tbl_good hs (by decide) pay e0 hU m (by omega) z (by omega) z2⟩) (m + 1) (by omega)
    · rw [if_neg e, if_neg e]
      exact ih y (by omega) h2
