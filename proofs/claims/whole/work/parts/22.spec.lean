/-! ===== what the words of the document are, of a line d (x, y) of nW columns and nH rows ===== -/
/-- the first place below n with f, or n -/
def fst (f : Nat → Bool) : Nat → Nat
  | 0 => 0
  | n + 1 => if fst f n < n then fst f n else if f n then n else n + 1
/-- the place behind the last one below n with f, or 0 -/
def lst (f : Nat → Bool) : Nat → Nat
  | 0 => 0
  | n + 1 => if f n then n + 1 else lst f n
def mx (f : Nat → Nat) : Nat → Nat
  | 0 => 0
  | n + 1 => if mx f n < f n then f n else mx f n
def cD (nH : Nat) (d : Nat → Nat → Bool) (x : Nat) : Bool := decide (0 < cnt (d x) nH)
def rN (nW : Nat) (d : Nat → Nat → Bool) (y : Nat) : Nat := cnt (fun x => d x y) nW
def rM (nW nH : Nat) (d : Nat → Nat → Bool) : Nat := mx (rN nW d) nH
def sR (nW nH : Nat) (d : Nat → Nat → Bool) (y : Nat) : Bool := decide (rM nW nH d ≤ 2 * rN nW d y)
def fMid (nW nH : Nat) (d : Nat → Nat → Bool) : Nat := fst (sR nW nH d) nH
def fBas (nW nH : Nat) (d : Nat → Nat → Bool) : Nat := lst (sR nW nH d) nH - 1
def fDue (nW nH : Nat) (d : Nat → Nat → Bool) : Nat := (fBas nW nH d - fMid nW nH d) * 3 / 4 + 2
def fFrom (nW nH : Nat) (d : Nat → Nat → Bool) : Nat := fst (cD nH d) nW
def fUntil (nW nH : Nat) (d : Nat → Nat → Bool) : Nat := lst (cD nH d) nW
def tch (nH : Nat) (d : Nat → Nat → Bool) (p : Nat) : Nat := cnt (fun y => d (p - 1) y && d p y) nH
def mayC (nH : Nat) (d : Nat → Nat → Bool) (p : Nat) : Bool := decide (tch nH d p ≤ 2) && (cD nH d (p - 1) || cD nH d p)
/-- how the class holds a line -/
def hld0 (nW nH : Nat) (d : Nat → Nat → Bool) (cols rows : Nat → Int64) : Prop := (∀ x, x < nW → ∀ i, lb (cols x) i = (decide (i < nH) && d x i)) ∧ (∀ y, y < nH → ∀ i, lb (rows y) i = (decide (i < nW) && d i y))
/-- how the reference holds it -/
def hld1 (nW nH : Nat) (d : Nat → Nat → Bool) (dk : Nat → Int32) : Prop := ∀ x y, x < nW → y < nH → dk (60 * y + x) = if d x y then 1 else 0
def szs (nW nH : Nat) : Prop := 1 ≤ nW ∧ nW ≤ 60 ∧ 1 ≤ nH ∧ nH ≤ 40
theorem fst_le (f : Nat → Bool) : ∀ n, fst f n ≤ n
  | 0 => Nat.le_refl 0
  | n + 1 => by
    unfold fst
    split
    · omega
    · split <;> omega
theorem fst_spec (f : Nat → Bool) : ∀ n, (∀ j, j < fst f n → f j = false) ∧ (fst f n < n → f (fst f n) = true)
  | 0 => ⟨fun j hj => absurd hj (Nat.not_lt_zero j), fun h => absurd h (Nat.lt_irrefl 0)⟩
  | n + 1 => by
    obtain ⟨h1, h2⟩ := fst_spec f n
    have hle := fst_le f n
    unfold fst
    split
    · exact ⟨h1, fun _ => h2 (by assumption)⟩
    · have e : fst f n = n := by omega
      rw [e] at h1
      split
      · exact ⟨h1, fun _ => by assumption⟩
      · rename_i hn
        refine ⟨fun j hj => ?_, fun h => absurd h (Nat.lt_irrefl _)⟩
        by_cases ej : j = n
        · rw [ej]
          simpa using hn
        · exact h1 j (by omega)
theorem fst_eq {f : Nat → Bool} {n i : Nat} (hi : i < n) (h : f i = true) (hz : ∀ j, j < i → f j = false) : fst f n = i := by
  obtain ⟨h1, h2⟩ := fst_spec f n
  rcases Nat.lt_trichotomy (fst f n) i with q | q | q
  · have := h2 (by omega)
    rw [hz _ q] at this
    cases this
  · exact q
  · have := h1 i q
    rw [h] at this
    cases this
theorem fst_none {f : Nat → Bool} {n : Nat} (hz : ∀ j, j < n → f j = false) : fst f n = n := by
  have h1 := (fst_spec f n).2
  have h2 := fst_le f n
  rcases Nat.lt_or_ge (fst f n) n with q | q
  · have := h1 q
    rw [hz _ q] at this
    cases this
  · omega
theorem fst_lt {f : Nat → Bool} {n i : Nat} (hi : i < n) (h : f i = true) : fst f n ≤ i := by
  rcases Nat.lt_or_ge i (fst f n) with q | q
  · have := (fst_spec f n).1 i q
    rw [h] at this
    cases this
  · exact q
theorem lst_le (f : Nat → Bool) : ∀ n, lst f n ≤ n
  | 0 => Nat.le_refl 0
  | n + 1 => by
    have := lst_le f n
    unfold lst
    split <;> omega
theorem lst_spec (f : Nat → Bool) : ∀ n, (∀ j, lst f n ≤ j → j < n → f j = false) ∧ (0 < lst f n → f (lst f n - 1) = true)
  | 0 => ⟨fun j _ hj => absurd hj (Nat.not_lt_zero j), fun h => absurd h (Nat.lt_irrefl 0)⟩
  | n + 1 => by
    obtain ⟨h1, h2⟩ := lst_spec f n
    unfold lst
    split
    · exact ⟨fun j hj hj2 => by omega, fun _ => by simpa⟩
    · rename_i hn
      refine ⟨fun j hj hj2 => ?_, h2⟩
      by_cases ej : j = n
      · rw [ej]
        simpa using hn
      · exact h1 j hj (by omega)
theorem lst_eq {f : Nat → Bool} {n i : Nat} (hi : i < n) (h : f i = true) (hz : ∀ j, i < j → j < n → f j = false) : lst f n = i + 1 := by
  obtain ⟨h1, h2⟩ := lst_spec f n
  have hle := lst_le f n
  rcases Nat.lt_trichotomy (lst f n) (i + 1) with q | q | q
  · have := h1 i (by omega) hi
    rw [h] at this
    cases this
  · exact q
  · have := h2 (by omega)
    rw [hz _ (by omega) (by omega)] at this
    cases this
theorem lst_none {f : Nat → Bool} {n : Nat} (hz : ∀ j, j < n → f j = false) : lst f n = 0 := by
  have h1 := (lst_spec f n).2
  have h2 := lst_le f n
  rcases Nat.lt_or_ge 0 (lst f n) with q | q
  · have := h1 q
    rw [hz _ (by omega)] at this
    cases this
  · omega
theorem lst_gt {f : Nat → Bool} {n i : Nat} (hi : i < n) (h : f i = true) : i < lst f n := by
  rcases Nat.lt_or_ge i (lst f n) with q | q
  · exact q
  · have := (lst_spec f n).1 i q hi
    rw [h] at this
    cases this
theorem mx_ge (f : Nat → Nat) : ∀ n i, i < n → f i ≤ mx f n
  | 0, i, h => absurd h (Nat.not_lt_zero i)
  | n + 1, i, h => by
    have ih := mx_ge f n
    unfold mx
    by_cases e : i = n
    · subst e
      split <;> omega
    · have := ih i (by omega)
      split <;> omega
theorem mx_at (f : Nat → Nat) : ∀ n, 0 < n → ∃ i, i < n ∧ f i = mx f n
  | 0, h => absurd h (Nat.lt_irrefl 0)
  | n + 1, _ => by
    unfold mx
    split
    · exact ⟨n, by omega, rfl⟩
    · rename_i h
      rcases Nat.eq_zero_or_pos n with q | q
      · subst q
        exact ⟨0, by omega, by show f 0 = 0; have : ¬ (0 : Nat) < f 0 := h; omega⟩
      · obtain ⟨i, hi, e⟩ := mx_at f n q
        exact ⟨i, by omega, e⟩
theorem mx_congr {f g : Nat → Nat} : ∀ {n : Nat}, (∀ i, i < n → f i = g i) → mx f n = mx g n
  | 0, _ => rfl
  | n + 1, h => by
    unfold mx
    rw [mx_congr (fun i hi => h i (by omega)), h n (by omega)]
theorem mx_le {f : Nat → Nat} {b : Nat} : ∀ {n : Nat}, (∀ i, i < n → f i ≤ b) → mx f n ≤ b
  | 0, _ => Nat.zero_le b
  | n + 1, h => by
    have h1 := mx_le (fun i hi => h i (by omega) : ∀ i, i < n → f i ≤ b)
    have h2 := h n (by omega)
    unfold mx
    split <;> omega
theorem cD_iff {nH : Nat} {d : Nat → Nat → Bool} {x : Nat} : cD nH d x = true ↔ ∃ y, y < nH ∧ d x y = true := by
  unfold cD
  rw [decide_eq_true_iff]
  constructor
  · intro h
    refine Classical.byContradiction (fun q => ?_)
    rw [cnt_false (fun i hi => by
      cases e : d x i with
      | false => rfl
      | true => exact absurd ⟨i, hi, e⟩ q)] at h
    exact Nat.lt_irrefl 0 h
  · intro ⟨y, hy, h⟩
    exact cnt_pos hy h
theorem rN_le (nW : Nat) (d : Nat → Nat → Bool) (y : Nat) : rN nW d y ≤ nW := cnt_le _ _
theorem rM_le (nW nH : Nat) (d : Nat → Nat → Bool) : rM nW nH d ≤ nW := mx_le (fun i _ => rN_le nW d i)
/-- a dark spot, by rows or by columns -/
theorem rM_pos {nW nH : Nat} {d : Nat → Nat → Bool} : rM nW nH d = 0 ↔ ∀ x, x < nW → cD nH d x = false := by
  constructor
  · intro h x hx
    cases e : cD nH d x with
    | false => rfl
    | true =>
      obtain ⟨y, hy, hd⟩ := cD_iff.mp e
      have h1 : rN nW d y ≤ rM nW nH d := mx_ge (rN nW d) nH y hy
      have h2 : 0 < rN nW d y := cnt_pos (f := fun x => d x y) hx hd
      omega
  · intro h
    have : rM nW nH d ≤ 0 := mx_le (fun y hy => by
      unfold rN
      rw [cnt_false (fun x hx => ?_)]
      · exact Nat.le_refl 0
      · cases e : d x y with
        | false => rfl
        | true =>
          have := h x hx
          rw [cD_iff.mpr ⟨y, hy, e⟩] at this
          cases this)
    omega
theorem sR_ex {nW nH : Nat} (d : Nat → Nat → Bool) (h : 1 ≤ nH) : ∃ y, y < nH ∧ sR nW nH d y = true := by
  obtain ⟨y, hy, e⟩ := mx_at (rN nW d) nH h
  refine ⟨y, hy, ?_⟩
  unfold sR rM
  rw [decide_eq_true_iff, ← e]
  omega
theorem fMid_lt {nW nH : Nat} (d : Nat → Nat → Bool) (h : 1 ≤ nH) : fMid nW nH d < nH ∧ sR nW nH d (fMid nW nH d) = true := by
  obtain ⟨y, hy, e⟩ := sR_ex (nW := nW) d h
  have h1 : fMid nW nH d ≤ y := fst_lt hy e
  exact ⟨by omega, (fst_spec (sR nW nH d) nH).2 (by unfold fMid at h1; omega)⟩
theorem fBas_lt {nW nH : Nat} (d : Nat → Nat → Bool) (h : 1 ≤ nH) : fBas nW nH d < nH ∧ fMid nW nH d ≤ fBas nW nH d ∧ lst (sR nW nH d) nH = fBas nW nH d + 1 := by
  obtain ⟨h1, h2⟩ := fMid_lt (nW := nW) d h
  have h3 := lst_gt h1 h2
  have h4 := lst_le (sR nW nH d) nH
  unfold fBas
  omega
theorem fDue_le {nW nH : Nat} (d : Nat → Nat → Bool) (h : szs nW nH) : fDue nW nH d ≤ 40 := by
  obtain ⟨h1, h2, h3, h4⟩ := h
  have := (fBas_lt (nW := nW) d h3).1
  unfold fDue
  omega
