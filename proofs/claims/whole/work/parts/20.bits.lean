/-! ===== bits of a long ===== -/
def lb (x : Int64) (i : Nat) : Bool := x.toBitVec.getLsbD i
def cnt (f : Nat → Bool) : Nat → Nat
  | 0 => 0
  | n + 1 => cnt f n + (if f n then 1 else 0)
def pop (x : Int64) : Nat := cnt (lb x) 64
theorem lb_ext {x y : Int64} (h : ∀ i, i < 64 → lb x i = lb y i) : x = y := Int64.toBitVec_inj.mp (BitVec.eq_of_getLsbD_eq (fun i hi => h i hi))
theorem lb_or (x y : Int64) (i : Nat) : lb (x ||| y) i = (lb x i || lb y i) := by unfold lb; rw [Int64.toBitVec_or, BitVec.getLsbD_or]
theorem lb_and (x y : Int64) (i : Nat) : lb (x &&& y) i = (lb x i && lb y i) := by unfold lb; rw [Int64.toBitVec_and, BitVec.getLsbD_and]
theorem lb_xor (x y : Int64) (i : Nat) : lb (x ^^^ y) i = (lb x i ^^ lb y i) := by unfold lb; rw [Int64.toBitVec_xor, BitVec.getLsbD_xor]
theorem lb_big {x : Int64} {i : Nat} (h : 64 ≤ i) : lb x i = false := BitVec.getLsbD_of_ge _ _ h
theorem lb_lt {x : Int64} {i : Nat} (h : lb x i = true) : i < 64 := by
  rcases Nat.lt_or_ge i 64 with q | q
  · exact q
  · rw [lb_big q] at h
    cases h
theorem lb_0 (i : Nat) : lb 0 i = false := by
  rcases Nat.lt_or_ge i 64 with h | h
  · exact (by decide +kernel : ∀ i, i < 64 → lb 0 i = false) i h
  · exact lb_big h
theorem lb_1 (i : Nat) : lb 1 i = decide (i = 0) := by
  rcases Nat.lt_or_ge i 64 with h | h
  · exact (by decide +kernel : ∀ i, i < 64 → lb 1 i = decide (i = 0)) i h
  · rw [lb_big h, decide_eq_false (by omega)]
theorem lb_m1 {i : Nat} (h : i < 64) : lb (-1) i = true := (by decide +kernel : ∀ i, i < 64 → lb (-1) i = true) i h
theorem s_l64 : ∀ n, n < 64 → (((nI n).toInt64 &&& 63).toBitVec.smod 64).toNat = n := by decide +kernel
theorem s_u64 : ∀ n, n < 64 → (((nI n).toInt64.toUInt64 &&& Int64.toUInt64 63).toBitVec % 64).toNat = n := by decide +kernel
theorem lb_shl (x : Int64) {n : Nat} (hn : n < 64) {i : Nat} (hi : i < 64) : lb (zShl x (nI n)) i = (decide (n ≤ i) && lb x (i - n)) := by
  unfold lb zShl
  rw [Int64.toBitVec_shiftLeft]
  show (x.toBitVec <<< (((nI n).toInt64 &&& 63).toBitVec.smod 64).toNat).getLsbD i = _
  rw [s_l64 n hn, BitVec.getLsbD_shiftLeft]
  rcases Nat.lt_or_ge i n with h | h
  · simp [h, Nat.not_le.mpr h]
  · simp [hi, h, Nat.not_lt.mpr h]
theorem lb_ushr (x : Int64) {n : Nat} (hn : n < 64) (i : Nat) : lb (zUshr x (nI n)) i = lb x (n + i) := by
  show (x.toUInt64 >>> ((nI n).toInt64.toUInt64 &&& Int64.toUInt64 63)).toBitVec.getLsbD i = x.toUInt64.toBitVec.getLsbD (n + i)
  rw [UInt64.toBitVec_shiftRight]
  show (x.toUInt64.toBitVec >>> (((nI n).toInt64.toUInt64 &&& Int64.toUInt64 63).toBitVec % 64).toNat).getLsbD i = _
  rw [s_u64 n hn, BitVec.getLsbD_ushiftRight]
theorem lb_one (n : Nat) (hn : n < 64) (i : Nat) : lb (zShl 1 (nI n)) i = decide (i = n) := by
  rcases Nat.lt_or_ge i 64 with hi | hi
  · rw [lb_shl 1 hn hi, lb_1]
    rcases Nat.lt_or_ge i n with h | h
    · rw [decide_eq_false (by omega : ¬ n ≤ i), decide_eq_false (by omega : ¬ i = n)]
      rfl
    · rw [decide_eq_true h]
      by_cases e : i = n
      · rw [decide_eq_true e, decide_eq_true (by omega)]
        rfl
      · rw [decide_eq_false e, decide_eq_false (by omega)]
        rfl
  · rw [lb_big hi, decide_eq_false (by omega)]
theorem lb_eq0 {x : Int64} : x = 0 ↔ ∀ i, i < 64 → lb x i = false := by
  constructor
  · intro h i _
    rw [h, lb_0]
  · intro h
    exact lb_ext (fun i hi => by rw [h i hi, lb_0])
theorem lb_ne0 {x : Int64} : ¬ x = 0 ↔ ∃ i, i < 64 ∧ lb x i = true := by
  constructor
  · intro h
    refine Classical.byContradiction (fun q => h (lb_eq0.mpr (fun i hi => ?_)))
    cases e : lb x i with
    | false => rfl
    | true => exact absurd ⟨i, hi, e⟩ q
  · intro ⟨i, hi, h⟩ e
    rw [e, lb_0] at h
    cases h
theorem lb_test (x : Int64) {k : Nat} (hk : k < 64) : zUshr x (nI k) &&& 1 = 0 ↔ lb x k = false := by
  rw [lb_eq0]
  constructor
  · intro h
    have h0 := h 0 (by decide)
    rw [lb_and, lb_ushr x hk, lb_1] at h0
    simpa using h0
  · intro h i hi
    rw [lb_and, lb_ushr x hk, lb_1]
    by_cases e : i = 0
    · subst e
      rw [Nat.add_zero, h]
      rfl
    · rw [decide_eq_false e, Bool.and_false]
theorem ok_has {a : Int64} {k : Nat} (hk : k < 64) {Post : Int32 → Prop} (h : Post (if lb a k then 1 else 0)) : wX0_has a (nI k) Post := by
  unfold wX0_has
  refine ⟨fun c => ?_, fun c => ?_⟩
  · rw [lg_cmp_eq, lb_test a hk] at c
    rw [c] at h
    exact h
  · rw [lg_cmp_eq, lb_test a hk] at c
    rw [Bool.not_eq_false] at c
    rw [c] at h
    exact h
/-! ===== counting ===== -/
theorem cnt_congr {f g : Nat → Bool} : ∀ {n : Nat}, (∀ i, i < n → f i = g i) → cnt f n = cnt g n
  | 0, _ => rfl
  | n + 1, h => by
    show cnt f n + _ = cnt g n + _
    rw [cnt_congr (fun i hi => h i (by omega)), h n (by omega)]
theorem cnt_le (f : Nat → Bool) : ∀ n, cnt f n ≤ n
  | 0 => Nat.le_refl 0
  | n + 1 => by
    show cnt f n + _ ≤ n + 1
    have := cnt_le f n
    split <;> omega
theorem cnt_add (f : Nat → Bool) (m : Nat) : ∀ n, cnt f (m + n) = cnt f m + cnt (fun j => f (m + j)) n
  | 0 => rfl
  | n + 1 => by
    show cnt f (m + n) + _ = cnt f m + (cnt (fun j => f (m + j)) n + _)
    rw [cnt_add f m n, Nat.add_assoc]
    rfl
theorem cnt_false {f : Nat → Bool} : ∀ {n : Nat}, (∀ i, i < n → f i = false) → cnt f n = 0
  | 0, _ => rfl
  | n + 1, h => by
    show cnt f n + _ = 0
    rw [cnt_false (fun i hi => h i (by omega)), h n (by omega)]
    rfl
theorem cnt_mono_n (f : Nat → Bool) {m n : Nat} (h : m ≤ n) : cnt f m ≤ cnt f n := by
  obtain ⟨k, rfl⟩ : ∃ k, n = m + k := ⟨n - m, by omega⟩
  rw [cnt_add]
  omega
theorem cnt_pos {f : Nat → Bool} {n i : Nat} (hi : i < n) (h : f i = true) : 0 < cnt f n := by
  have h1 : cnt f (i + 1) ≤ cnt f n := cnt_mono_n f hi
  have h2 : cnt f (i + 1) = cnt f i + 1 := by show cnt f i + _ = _; rw [h]; rfl
  omega
theorem cnt_eq0 {f : Nat → Bool} {n : Nat} : cnt f n = 0 ↔ ∀ i, i < n → f i = false := by
  constructor
  · intro h i hi
    cases e : f i with
    | false => rfl
    | true => have := cnt_pos hi e; omega
  · exact fun h => cnt_false h
/-- only the first n places count -/
theorem cnt_trim {f : Nat → Bool} {m n : Nat} (h : m ≤ n) (hf : ∀ i, m ≤ i → i < n → f i = false) : cnt f n = cnt f m := by
  obtain ⟨k, rfl⟩ : ∃ k, n = m + k := ⟨n - m, by omega⟩
  rw [cnt_add, cnt_false (fun i hi => hf (m + i) (by omega) (by omega))]
  rfl
