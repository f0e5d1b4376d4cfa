/-! ===== shelves: how many, and each: its cost, and what else is told of it ===== -/
abbrev Sh (α : Type) : Type := Nat × (Nat → Nat × α)
def pos {α : Type} (s : Sh α) (c : Nat) : Nat := cnt (fun i => decide ((s.2 i).1 ≤ c)) s.1
def ins {α : Type} (k : Nat) (s : Sh α) (c : Nat) (x : α) : Sh α := (if s.1 < k then s.1 + 1 else k, fun i => if i < pos s c then s.2 i else if i = pos s c then (c, x) else s.2 (i - 1))
def srt {α : Type} (s : Sh α) : Prop := ∀ i j, i ≤ j → j < s.1 → (s.2 i).1 ≤ (s.2 j).1
theorem cnt_dc {f : Nat → Bool} : ∀ {n : Nat}, (∀ i j, i ≤ j → j < n → f j = true → f i = true) → ∀ i, i < n → (f i = true ↔ i < cnt f n)
  | 0, _, i, hi => absurd hi (Nat.not_lt_zero i)
  | n + 1, h, i, hi => by
    have ih := cnt_dc (fun i j h1 h2 h3 => h i j h1 (by omega) h3 : ∀ i j, i ≤ j → j < n → f j = true → f i = true)
    have hle := cnt_le f n
    show f i = true ↔ i < cnt f n + (if f n then 1 else 0)
    cases e : f n with
    | true =>
      have all : cnt f n = n := by
        rcases Nat.eq_zero_or_pos n with q | q
        · subst q; rfl
        · have := (ih (n - 1) (by omega)).mp (h (n - 1) n (by omega) (by omega) e)
          omega
      rw [all]
      refine ⟨fun _ => hi, fun _ => h i n (by omega) (by omega) e⟩
    | false =>
      by_cases ei : i = n
      · subst ei
        rw [e]
        refine ⟨fun q => (by cases q), fun q => ?_⟩
        have q : i < cnt f i := q
        omega
      · exact ih i (by omega)
theorem pos_le {α : Type} (s : Sh α) (c : Nat) : pos s c ≤ s.1 := cnt_le _ _
theorem pos_iff {α : Type} {s : Sh α} (hs : srt s) {c i : Nat} (hi : i < s.1) : (s.2 i).1 ≤ c ↔ i < pos s c := by
  have := cnt_dc (f := fun i => decide ((s.2 i).1 ≤ c)) (n := s.1) (fun i j h1 h2 h3 => by
    rw [decide_eq_true_iff] at h3 ⊢
    have := hs i j h1 h2
    omega) i hi
  unfold pos
  rw [← this, decide_eq_true_iff]
theorem ins_srt {α : Type} {k : Nat} {s : Sh α} {c : Nat} {x : α} (hs : srt s) (hk : s.1 ≤ k) : srt (ins k s c x) := by
  intro i j hij hj
  have hp := pos_le s c
  have hn : (ins k s c x).1 ≤ s.1 + 1 := by
    unfold ins
    show (if s.1 < k then s.1 + 1 else k) ≤ s.1 + 1
    split <;> omega
  show (if i < pos s c then s.2 i else if i = pos s c then (c, x) else s.2 (i - 1)).1 ≤ (if j < pos s c then s.2 j else if j = pos s c then (c, x) else s.2 (j - 1)).1
  by_cases h1 : j < pos s c
  · rw [if_pos (show i < pos s c by omega), if_pos h1]
    exact hs i j hij (by omega)
  · rw [if_neg h1]
    by_cases h2 : j = pos s c
    · rw [if_pos h2]
      by_cases h3 : i < pos s c
      · rw [if_pos h3]
        exact (pos_iff hs (by omega)).mpr h3
      · rw [if_neg h3, if_pos (by omega)]
        exact Nat.le_refl _
    · rw [if_neg h2]
      by_cases h3 : i < pos s c
      · rw [if_pos h3]
        exact hs i (j - 1) (by omega) (by omega)
      · rw [if_neg h3]
        by_cases h4 : i = pos s c
        · rw [if_pos h4]
          have := pos_iff (c := c) hs (show j - 1 < s.1 by omega)
          show c ≤ _
          rcases Nat.lt_or_ge c (s.2 (j - 1)).1 with q | q
          · omega
          · have := this.mp q
            omega
        · rw [if_neg h4]
          exact hs (i - 1) (j - 1) (by omega) (by omega)
theorem ins_le {α : Type} {k : Nat} (s : Sh α) (c : Nat) (x : α) (hk : s.1 ≤ k) : (ins k s c x).1 ≤ k := by
  show (if s.1 < k then s.1 + 1 else k) ≤ k
  split <;> omega
theorem ins_bd {α : Type} {k b : Nat} {s : Sh α} {c : Nat} {x : α} (hk : s.1 ≤ k) (hb : ∀ i, i < s.1 → (s.2 i).1 ≤ b) (hc : c ≤ b) : ∀ i, i < (ins k s c x).1 → ((ins k s c x).2 i).1 ≤ b := by
  intro i hi
  have hp := pos_le s c
  have hn : (ins k s c x).1 ≤ s.1 + 1 := by
    show (if s.1 < k then s.1 + 1 else k) ≤ s.1 + 1
    split <;> omega
  show (if i < pos s c then s.2 i else if i = pos s c then (c, x) else s.2 (i - 1)).1 ≤ b
  by_cases h1 : i < pos s c
  · rw [if_pos h1]
    exact hb i (by omega)
  · rw [if_neg h1]
    by_cases h2 : i = pos s c
    · rw [if_pos h2]
      exact hc
    · rw [if_neg h2]
      exact hb (i - 1) (by omega)
/-! places moved up by one, between two of them -/
def shf {α : Type} (f : Nat → α) (lo hi : Nat) : Nat → α := fun i => if lo < i ∧ i < hi then f (i - 1) else f i
theorem shf_0 {α : Type} (f : Nat → α) (lo : Nat) : shf f lo (lo + 1) = f := by
  funext i
  unfold shf
  rw [if_neg (by omega)]
theorem shf_u (f : Nat → Int32) {lo hi : Nat} (h : lo + 1 < hi) : upd (shf f (lo + 1) hi) (lo + 1) (shf f (lo + 1) hi lo) = shf f lo hi := by
  funext i
  unfold upd shf
  by_cases e : i = lo + 1
  · rw [if_pos e, if_neg (by omega), if_pos (by omega), e]
    rfl
  · rw [if_neg e]
    by_cases c : lo + 1 < i ∧ i < hi
    · rw [if_pos c, if_pos (by omega)]
    · rw [if_neg c, if_neg (by omega)]
theorem shf_uL (f : Nat → Int64) {lo hi : Nat} (h : lo + 1 < hi) : vp_updL (shf f (lo + 1) hi) (lo + 1) (shf f (lo + 1) hi lo) = shf f lo hi := by
  funext i
  unfold vp_updL shf
  by_cases e : i = lo + 1
  · rw [if_pos e, if_neg (by omega), if_pos (by omega), e]
    rfl
  · rw [if_neg e]
    by_cases c : lo + 1 < i ∧ i < hi
    · rw [if_pos c, if_pos (by omega)]
    · rw [if_neg c, if_neg (by omega)]
theorem shf_at {α : Type} (f : Nat → α) {lo hi i : Nat} : shf f lo hi i = if lo < i ∧ i < hi then f (i - 1) else f i := rfl
/-! ===== the reference's keep ===== -/
def rpR (mn : Nat → Int32) (cs : Nat → Int64) (nx gs : Nat → Int32) (x : Nat) (s : Sh (Int32 × Int32)) : Prop := mn x = nI s.1 ∧ s.1 ≤ 40 ∧ ∀ i, i < s.1 → cs (40 * x + i) = lN (s.2 i).1 ∧ nx (40 * x + i) = (s.2 i).2.1 ∧ gs (40 * x + i) = (s.2 i).2.2
set_option maxHeartbeats 2000000 in
theorem ok1_keep {mn : Nat → Int32} {cs : Nat → Int64} {nx gs : Nat → Int32} {x : Nat} {s : Sh (Int32 × Int32)} (hx : x < 61) (hr : rpR mn cs nx gs x s) (hs : srt s) (hb : ∀ i, i < s.1 → (s.2 i).1 < 2 ^ 31) {c : Nat} (hc : c < 2 ^ 31) {a4 a5 : Int32} {Post : (Nat → Int32) → (Nat → Int64) → (Nat → Int32) → (Nat → Int32) → Prop}
    (hp : ∀ (mn' : Nat → Int32) (cs' : Nat → Int64) (nx' gs' : Nat → Int32), rpR mn' cs' nx' gs' x (ins 40 s c (a4, a5)) → (∀ y, y ≠ x → mn' y = mn y) → (∀ i, (i < 40 * x ∨ 40 * x + 40 ≤ i) → cs' i = cs i ∧ nx' i = nx i ∧ gs' i = gs i) → Post mn' cs' nx' gs') : wX1_keep mn cs nx gs (nI x) (lN c) a4 a5 Post := by
  obtain ⟨r1, r2, r3⟩ := hr
  have hpos := pos_le s c
  unfold wX1_keep
  refine ⟨x, rfl, hx, by omega, ?_⟩
  intro x6 e6
  rw [r1] at e6
  subst e6
  have ix : ∀ i : Nat, (40 * nI x + nI i : Int32) = nI (40 * x + i) := fun i => by rw [show (40 : Int32) = nI 40 from rfl, pk_mul, nI_add]
  -- behind the search
  have found : jX1_keep_38 (nI x) (lN c) a4 a5 Post (nI (pos s c)) mn cs nx gs := by
    unfold jX1_keep_38
    refine br_c (fun q => ?_) (fun q => ?_)
    · rw [show (40 : Int32) = nI 40 from rfl, nI_eq (by omega) (by decide)] at q
      refine hp mn cs nx gs ⟨?_, ?_, ?_⟩ (fun _ _ => rfl) (fun _ _ => ⟨rfl, rfl, rfl⟩)
      · show mn x = nI (if s.1 < 40 then s.1 + 1 else 40)
        rw [if_neg (by omega), r1, show s.1 = 40 by omega]
      · exact ins_le _ _ _ r2
      · intro i hi
        have hi : i < (if s.1 < 40 then s.1 + 1 else 40) := hi
        rw [if_neg (by omega)] at hi
        show _ = lN (if i < pos s c then s.2 i else if i = pos s c then (c, (a4, a5)) else s.2 (i - 1)).1 ∧ _ = (if i < pos s c then s.2 i else if i = pos s c then (c, (a4, a5)) else s.2 (i - 1)).2.1 ∧ _ = (if i < pos s c then s.2 i else if i = pos s c then (c, (a4, a5)) else s.2 (i - 1)).2.2
        rw [if_pos (by omega)]
        exact r3 i (by omega)
    · rw [show (40 : Int32) = nI 40 from rfl, nI_eq (by omega) (by decide)] at q
      refine ⟨x, rfl, hx, by omega, ?_⟩
      -- how many there are now
      have many : ∀ m : Nat, m = (if s.1 < 40 then s.1 + 1 else 40) → jX1_keep_75 (nI x) (lN c) a4 a5 Post (nI (pos s c)) (nI m) (nI x) mn cs nx gs := fun m em => by
        have hm : pos s c < m ∧ m ≤ 40 ∧ m ≤ s.1 + 1 := by
          rw [em]
          split <;> omega
        unfold jX1_keep_75
        refine ⟨x, rfl, hx, by omega, x, rfl, hx, by omega, ?_⟩
        intro x7 e7
        rw [pk_us] at e7
        obtain ⟨k0, hk0⟩ : ∃ k0, m = k0 + 1 := ⟨m - 1, by omega⟩
        rw [hk0, m1] at e7
        subst e7
        have last : ∀ (t : Nat), pos s c + t < m → ∃ n : Nat, lX1_keep_86 (nI x) (lN c) a4 a5 Post n (nI (pos s c)) (nI (pos s c + t)) (upd mn x (nI m)) (shf cs (40 * x + (pos s c + t)) (40 * x + m)) (shf nx (40 * x + (pos s c + t)) (40 * x + m)) (shf gs (40 * x + (pos s c + t)) (40 * x + m)) := by
          intro t
          induction t with
          | zero =>
            intro ht
            refine ⟨1, ?_⟩
            show bX1_keep_86 (nI x) (lN c) a4 a5 Post (lX1_keep_86 (nI x) (lN c) a4 a5 Post 0) (nI (pos s c)) (nI (pos s c + 0)) _ _ _ _
            unfold bX1_keep_86
            refine br_t (nI_le (Nat.le_refl _) (by omega)) ?_
            rw [ix]
            refine ⟨40 * x + pos s c, rfl, by omega, by omega, 40 * x + pos s c, rfl, by omega, by omega, 40 * x + pos s c, rfl, by omega, by omega, ?_⟩
            refine hp _ _ _ _ ⟨?_, ?_, ?_⟩ (fun y hy => pk_un hy) (fun i hi => ?_)
            · rw [pk_us, em]
              rfl
            · exact ins_le _ _ _ r2
            · intro i hi
              have hi : i < (if s.1 < 40 then s.1 + 1 else 40) := hi
              rw [← em] at hi
              show vp_updL (shf cs (40 * x + (pos s c + 0)) (40 * x + m)) (40 * x + pos s c) (lN c) (40 * x + i) = lN (if i < pos s c then s.2 i else if i = pos s c then (c, (a4, a5)) else s.2 (i - 1)).1 ∧ upd (shf nx (40 * x + (pos s c + 0)) (40 * x + m)) (40 * x + pos s c) a4 (40 * x + i) = (if i < pos s c then s.2 i else if i = pos s c then (c, (a4, a5)) else s.2 (i - 1)).2.1 ∧ upd (shf gs (40 * x + (pos s c + 0)) (40 * x + m)) (40 * x + pos s c) a5 (40 * x + i) = (if i < pos s c then s.2 i else if i = pos s c then (c, (a4, a5)) else s.2 (i - 1)).2.2
              by_cases h1 : i < pos s c
              · rw [if_pos h1, pk_uLn (by omega), pk_un (by omega), pk_un (by omega), shf_at, shf_at, shf_at, if_neg (by omega), if_neg (by omega), if_neg (by omega)]
                exact r3 i (by omega)
              · rw [if_neg h1]
                by_cases h2 : i = pos s c
                · rw [if_pos h2, h2, pk_uLs, pk_us, pk_us]
                  exact ⟨rfl, rfl, rfl⟩
                · rw [if_neg h2, pk_uLn (by omega), pk_un (by omega), pk_un (by omega), shf_at, shf_at, shf_at, if_pos (by omega), if_pos (by omega), if_pos (by omega), show 40 * x + i - 1 = 40 * x + (i - 1) by omega]
                  exact r3 (i - 1) (by omega)
            · rw [pk_uLn (by omega), pk_un (by omega), pk_un (by omega), shf_at, shf_at, shf_at, if_neg (by omega), if_neg (by omega), if_neg (by omega)]
              exact ⟨rfl, rfl, rfl⟩
          | succ t iht =>
            intro ht
            obtain ⟨n, hn⟩ := iht (by omega)
            refine ⟨n + 1, ?_⟩
            show bX1_keep_86 (nI x) (lN c) a4 a5 Post (lX1_keep_86 (nI x) (lN c) a4 a5 Post n) (nI (pos s c)) (nI (pos s c + (t + 1))) _ _ _ _
            unfold bX1_keep_86
            have e1 : (40 * nI x + nI (pos s c + (t + 1)) - 1 : Int32) = nI (40 * x + (pos s c + t)) := by
              rw [ix, show 40 * x + (pos s c + (t + 1)) = (40 * x + (pos s c + t)) + 1 by omega, m1]
            have e2 : (40 * nI x + nI (pos s c + (t + 1)) : Int32) = nI ((40 * x + (pos s c + t)) + 1) := by
              rw [ix, show 40 * x + (pos s c + (t + 1)) = (40 * x + (pos s c + t)) + 1 by omega]
            refine br_f (nI_ge (by omega) (by omega)) ⟨_, e1, by omega, by omega, _, e2, by omega, by omega, _, e1, by omega, by omega, _, e2, by omega, by omega, _, e1, by omega, by omega, _, e2, by omega, by omega, ?_⟩
            dsimp only
            rw [show 40 * x + (pos s c + (t + 1)) = (40 * x + (pos s c + t)) + 1 by omega]
            rw [shf_uL _ (by omega), shf_u _ (by omega), shf_u _ (by omega), show pos s c + (t + 1) = (pos s c + t) + 1 by omega, pk_m1]
            exact hn
        obtain ⟨n, hn⟩ := last (k0 - pos s c) (by omega)
        rw [show pos s c + (k0 - pos s c) = k0 by omega, hk0, show 40 * x + (k0 + 1) = (40 * x + k0) + 1 by omega, shf_0, shf_0, shf_0] at hn
        rw [hk0]
        exact ⟨n, hn⟩
      dsimp only
      rw [r1, show (40 : Int32) = nI 40 from rfl]
      refine br_c (fun q2 => ?_) (fun q2 => ?_)
      · rw [nI_leI (by decide) (by omega)] at q2
        exact many 40 (by rw [if_neg (by omega)])
      · rw [nI_leI (by decide) (by omega)] at q2
        refine ⟨x, rfl, hx, by omega, ?_⟩
        dsimp only
        rw [r1, i1]
        exact many (s.1 + 1) (by rw [if_pos (by omega)])
  -- the search
  have srch : ∀ t : Nat, pos s c + t ≤ s.1 → ∃ n : Nat, lX1_keep_8 (nI x) (lN c) a4 a5 Post n (nI (pos s c + t)) mn cs nx gs := by
    intro t
    induction t with
    | zero =>
      intro ht
      refine ⟨1, ?_⟩
      show bX1_keep_8 (nI x) (lN c) a4 a5 Post (lX1_keep_8 (nI x) (lN c) a4 a5 Post 0) (nI (pos s c)) mn cs nx gs
      unfold bX1_keep_8
      refine br_c (fun _ => found) (fun q => ?_)
      rw [show (0 : Int32) = nI 0 from rfl, nI_leI (by omega) (by decide)] at q
      refine ⟨40 * x + (pos s c - 1), ?_, by omega, by omega, ?_⟩
      · rw [ix, show 40 * x + pos s c = (40 * x + (pos s c - 1)) + 1 by omega, m1]
      · refine br_t ?_ found
        rw [lg_cmp_le, (r3 (pos s c - 1) (by omega)).1, lN_le (hb _ (by omega)) hc]
        exact (pos_iff hs (by omega)).mpr (by omega)
    | succ t iht =>
      intro ht
      obtain ⟨n, hn⟩ := iht (by omega)
      refine ⟨n + 1, ?_⟩
      show bX1_keep_8 (nI x) (lN c) a4 a5 Post (lX1_keep_8 (nI x) (lN c) a4 a5 Post n) (nI (pos s c + (t + 1))) mn cs nx gs
      unfold bX1_keep_8
      refine br_f (fun q => by rw [show (0 : Int32) = nI 0 from rfl, nI_leI (by omega) (by decide)] at q; omega) ⟨40 * x + (pos s c + t), ?_, by omega, by omega, ?_⟩
      · rw [ix, show 40 * x + (pos s c + (t + 1)) = (40 * x + (pos s c + t)) + 1 by omega, m1]
      · refine br_f ?_ ?_
        · rw [lg_cmp_le, (r3 (pos s c + t) (by omega)).1, lN_le (hb _ (by omega)) hc, pos_iff hs (by omega)]
          omega
        · rw [show pos s c + (t + 1) = (pos s c + t) + 1 by omega, pk_m1]
          exact hn
  have := srch (s.1 - pos s c) (by omega)
  rw [show pos s c + (s.1 - pos s c) = s.1 by omega] at this
  exact this
