/-! ===== the class's shelve and goOnFrom ===== -/
def rpC (ends : Nat → Int64) (ecost ecnt : Nat → Int32) (x : Nat) (s : Sh Int64) : Prop := ecnt x = nI s.1 ∧ ∀ i, i < s.1 → ecost (40 * x + i) = nI (s.2 i).1 ∧ ends (40 * x + i) = (s.2 i).2
/-- nothing but the shelf of x has changed -/
def fr0 (x : Nat) (ends ends' : Nat → Int64) (ecost ecost' ecnt ecnt' : Nat → Int32) : Prop := (∀ y, y ≠ x → ecnt' y = ecnt y) ∧ ∀ i, (i < 40 * x ∨ 40 * x + 40 ≤ i) → ends' i = ends i ∧ ecost' i = ecost i
theorem fr0_rf (x : Nat) (ends : Nat → Int64) (ecost ecnt : Nat → Int32) : fr0 x ends ends ecost ecost ecnt ecnt := ⟨fun _ _ => rfl, fun _ _ => ⟨rfl, rfl⟩⟩
theorem fr0_tr {x : Nat} {e0 e1 e2 : Nat → Int64} {c0 c1 c2 n0 n1 n2 : Nat → Int32} (h : fr0 x e0 e1 c0 c1 n0 n1) (h2 : fr0 x e1 e2 c1 c2 n1 n2) : fr0 x e0 e2 c0 c2 n0 n2 := ⟨fun y hy => (h2.1 y hy).trans (h.1 y hy), fun i hi => ⟨(h2.2 i hi).1.trans (h.2 i hi).1, (h2.2 i hi).2.trans (h.2 i hi).2⟩⟩
theorem rpC_fr {x y : Nat} {e0 e1 : Nat → Int64} {c0 c1 n0 n1 : Nat → Int32} {s : Sh Int64} (h : rpC e0 c0 n0 y s) (hs : s.1 ≤ 40) (hf : fr0 x e0 e1 c0 c1 n0 n1) (hxy : y ≠ x) : rpC e1 c1 n1 y s := by
  refine ⟨(hf.1 y hxy).trans h.1, fun i hi => ?_⟩
  have h1 := hf.2 (40 * y + i) (by omega)
  exact ⟨h1.2.trans (h.2 i hi).1, h1.1.trans (h.2 i hi).2⟩
set_option maxHeartbeats 2000000 in
theorem ok0_shelve {nW : Nat} (hW : nW ≤ 60) {ends : Nat → Int64} {ecost ecnt : Nat → Int32} {x k : Nat} {s : Sh Int64} (hx : x ≤ nW) (hk1 : 1 ≤ k) (hk : k ≤ 40) (hr : rpC ends ecost ecnt x s) (hn : s.1 ≤ k) (hs : srt s) (hb : ∀ i, i < s.1 → (s.2 i).1 < 2 ^ 31) {c : Nat} (hc : c < 2 ^ 31) {m : Int64} {Post : Int32 → (Nat → Int64) → (Nat → Int32) → (Nat → Int32) → Prop}
    (hp : ∀ (ends' : Nat → Int64) (ecost' ecnt' : Nat → Int32), rpC ends' ecost' ecnt' x (ins k s c m) → fr0 x ends ends' ecost ecost' ecnt ecnt' → Post 1 ends' ecost' ecnt')
    (h0 : s.1 = k → (∀ i, i < k → (s.2 i).1 ≤ c) → Post 0 ends ecost ecnt) : wX0_shelve nW ends ecost ecnt (nI x) (nI c) m (nI k) Post := by
  obtain ⟨r1, r3⟩ := hr
  have hpos := pos_le s c
  unfold wX0_shelve wX0_shelf
  have esh : (nI x * 40 : Int32) = nI (40 * x) := by rw [show (40 : Int32) = nI 40 from rfl, pk_mul, Nat.mul_comm]
  rw [esh]
  refine ⟨x, rfl, by omega, by omega, ?_⟩
  intro x7 e7
  rw [r1] at e7
  subst e7
  -- from the free place on down
  have loop : ∀ f0 : Nat, pos s c ≤ f0 → f0 < k → f0 ≤ s.1 → (if s.1 < k then s.1 + 1 else k) = f0 + 1 → ∃ n : Nat, lX0_shelve_50 nW (nI x) (nI c) m (nI k) Post n (nI (40 * x)) (nI s.1) (nI f0) ends ecost ecnt := fun f0 q1 q2 q3 q4 => by
    have fin : jX0_shelve_121 nW (nI x) (nI c) m (nI k) Post (nI (40 * x)) (nI s.1) (nI (pos s c)) (shf ends (40 * x + pos s c) (40 * x + f0 + 1)) (shf ecost (40 * x + pos s c) (40 * x + f0 + 1)) ecnt := by
      unfold jX0_shelve_121
      rw [nI_add]
      refine ⟨_, rfl, by omega, by omega, _, rfl, by omega, by omega, x, rfl, by omega, by omega, ?_⟩
      dsimp only
      rw [i1, zMin_nI (by omega) (by omega)]
      refine hp _ _ _ ⟨?_, ?_⟩ ⟨fun y hy => pk_un hy, fun i hi => ?_⟩
      · rw [pk_us]
        show _ = nI (if s.1 < k then s.1 + 1 else k)
        congr 1
        by_cases z : s.1 < k
        · rw [if_pos z, if_neg (by omega)]
        · rw [if_neg z, if_pos (by omega)]
      · intro i hi
        have hi : i < (if s.1 < k then s.1 + 1 else k) := hi
        rw [q4] at hi
        show upd (shf ecost (40 * x + pos s c) (40 * x + f0 + 1)) (40 * x + pos s c) (nI c) (40 * x + i) = nI (if i < pos s c then s.2 i else if i = pos s c then (c, m) else s.2 (i - 1)).1 ∧ vp_updL (shf ends (40 * x + pos s c) (40 * x + f0 + 1)) (40 * x + pos s c) m (40 * x + i) = (if i < pos s c then s.2 i else if i = pos s c then (c, m) else s.2 (i - 1)).2
        by_cases h1 : i < pos s c
        · rw [if_pos h1, pk_uLn (by omega), pk_un (by omega), shf_at, shf_at, if_neg (by omega), if_neg (by omega)]
          exact r3 i (by omega)
        · rw [if_neg h1]
          by_cases h2 : i = pos s c
          · rw [if_pos h2, h2, pk_uLs, pk_us]
            exact ⟨rfl, rfl⟩
          · rw [if_neg h2, pk_uLn (by omega), pk_un (by omega), shf_at, shf_at, if_pos (by omega), if_pos (by omega), show 40 * x + i - 1 = 40 * x + (i - 1) by omega]
            exact r3 (i - 1) (by omega)
      · rw [pk_uLn (by omega), pk_un (by omega), shf_at, shf_at, if_neg (by omega), if_neg (by omega)]
        exact ⟨rfl, rfl⟩
    have go : ∀ t : Nat, pos s c + t ≤ f0 → ∃ n : Nat, lX0_shelve_50 nW (nI x) (nI c) m (nI k) Post n (nI (40 * x)) (nI s.1) (nI (pos s c + t)) (shf ends (40 * x + (pos s c + t)) (40 * x + f0 + 1)) (shf ecost (40 * x + (pos s c + t)) (40 * x + f0 + 1)) ecnt := by
      intro t
      induction t with
      | zero =>
        intro ht
        refine ⟨1, ?_⟩
        show bX0_shelve_50 nW (nI x) (nI c) m (nI k) Post (lX0_shelve_50 nW (nI x) (nI c) m (nI k) Post 0) (nI (40 * x)) (nI s.1) (nI (pos s c)) (shf ends (40 * x + pos s c) (40 * x + f0 + 1)) (shf ecost (40 * x + pos s c) (40 * x + f0 + 1)) ecnt
        unfold bX0_shelve_50
        refine br_c (fun _ => fin) (fun q => ?_)
        rw [show (0 : Int32) = nI 0 from rfl, nI_leI (by omega) (by decide)] at q
        have e1 : (nI (40 * x) + nI (pos s c) - 1 : Int32) = nI (40 * x + (pos s c - 1)) := by
          rw [nI_add, show 40 * x + pos s c = (40 * x + (pos s c - 1)) + 1 by omega, m1]
        refine ⟨_, e1, by omega, by omega, ?_⟩
        refine br_t ?_ fin
        rw [shf_at, if_neg (by omega), (r3 (pos s c - 1) (by omega)).1, nI_leI (hb _ (by omega)) hc]
        exact (pos_iff hs (by omega)).mpr (by omega)
      | succ t iht =>
        intro ht
        obtain ⟨n, hn⟩ := iht (by omega)
        refine ⟨n + 1, ?_⟩
        show bX0_shelve_50 nW (nI x) (nI c) m (nI k) Post (lX0_shelve_50 nW (nI x) (nI c) m (nI k) Post n) (nI (40 * x)) (nI s.1) (nI (pos s c + (t + 1))) _ _ ecnt
        unfold bX0_shelve_50
        have e2 : (nI (40 * x) + nI (pos s c + (t + 1)) : Int32) = nI ((40 * x + (pos s c + t)) + 1) := by
          rw [nI_add, show 40 * x + (pos s c + (t + 1)) = (40 * x + (pos s c + t)) + 1 by omega]
        have e1 : (nI (40 * x) + nI (pos s c + (t + 1)) - 1 : Int32) = nI (40 * x + (pos s c + t)) := by
          rw [e2, m1]
        refine br_f (fun q => by rw [show (0 : Int32) = nI 0 from rfl, nI_leI (by omega) (by decide)] at q; omega) ⟨_, e1, by omega, by omega, ?_⟩
        refine br_f ?_ ⟨_, e1, by omega, by omega, _, e2, by omega, by omega, _, e1, by omega, by omega, _, e2, by omega, by omega, ?_⟩
        · rw [shf_at, if_neg (by omega), (r3 (pos s c + t) (by omega)).1, nI_leI (hb _ (by omega)) hc, pos_iff hs (by omega)]
          omega
        · dsimp only
          rw [show 40 * x + (pos s c + (t + 1)) = (40 * x + (pos s c + t)) + 1 by omega, shf_uL _ (by omega), shf_u _ (by omega), show pos s c + (t + 1) = (pos s c + t) + 1 by omega, pk_m1]
          exact hn
    obtain ⟨n, hn⟩ := go (f0 - pos s c) (by omega)
    rw [show pos s c + (f0 - pos s c) = f0 by omega, shf_0, shf_0] at hn
    exact ⟨n, hn⟩
  have ek : (nI k - 1 : Int32) = nI (k - 1) := by rw [show (1 : Int32) = nI 1 from rfl, pk_sub hk1]
  rw [ek]
  refine br_c (fun q => ?_) (fun q => ?_)
  · rw [nI_ltI (by omega) (by omega)] at q
    intro x8 e8
    rw [zMin_nI (by omega) (by omega), if_neg (by omega)] at e8
    subst e8
    exact loop s.1 hpos q (Nat.le_refl _) (by rw [if_pos q])
  · rw [nI_ltI (by omega) (by omega)] at q
    have hnk : s.1 = k := by omega
    have e1 : (nI (40 * x) + nI k - 1 : Int32) = nI (40 * x + (k - 1)) := by
      rw [nI_add, show 40 * x + k = (40 * x + (k - 1)) + 1 by omega, m1]
    refine ⟨_, e1, by omega, by omega, ?_⟩
    dsimp only
    rw [(r3 (k - 1) (by omega)).1]
    refine br_c (fun q2 => ?_) (fun q2 => ?_)
    · rw [nI_ltI hc (hb _ (by omega))] at q2
      have hpk : pos s c ≤ k - 1 := by
        rcases Nat.lt_or_ge (k - 1) (pos s c) with z | z
        · have := (pos_iff hs (show k - 1 < s.1 by omega)).mpr z
          omega
        · exact z
      intro x8 e8
      rw [zMin_nI (by omega) (by omega), if_pos (by omega)] at e8
      subst e8
      exact loop (k - 1) hpk (by omega) (by omega) (by rw [if_neg (by omega)]; omega)
    · rw [nI_ltI hc (hb _ (by omega))] at q2
      refine h0 hnk (fun i hi => ?_)
      have := hs i (k - 1) (by omega) (by omega)
      omega
/-! what is laid in front of each of a shelf's -/
def gon {α : Type} (k c : Nat) (pay : Nat → α → α) (sy acc : Sh α) : Nat → Sh α
  | 0 => acc
  | n + 1 => ins k (gon k c pay sy acc n) (c + (sy.2 n).1) (pay n (sy.2 n).2)
def shE {α : Type} (s t : Sh α) : Prop := s.1 = t.1 ∧ ∀ i, i < s.1 → s.2 i = t.2 i
theorem ins_full {α : Type} {k c : Nat} {s : Sh α} {x : α} (h1 : s.1 = k) (h2 : ∀ i, i < k → (s.2 i).1 ≤ c) : shE s (ins k s c x) := by
  have e : pos s c = k := by
    unfold pos
    rw [h1]
    have : ∀ n, n ≤ k → cnt (fun i => decide ((s.2 i).1 ≤ c)) n = n := by
      intro n
      induction n with
      | zero => intro _; rfl
      | succ n ih =>
        intro hn
        show cnt _ n + (if decide ((s.2 n).1 ≤ c) = true then 1 else 0) = n + 1
        rw [ih (by omega), decide_eq_true (h2 n (by omega))]
        rfl
    exact this k (Nat.le_refl k)
  refine ⟨?_, fun i hi => ?_⟩
  · show s.1 = if s.1 < k then s.1 + 1 else k
    rw [if_neg (by omega), h1]
  · show s.2 i = if i < pos s c then s.2 i else _
    rw [if_pos (by omega)]
theorem gon_inv {α : Type} {k c B : Nat} {pay : Nat → α → α} {sy acc : Sh α} (ha : srt acc) (hn : acc.1 ≤ k) (hb : ∀ i, i < acc.1 → (acc.2 i).1 ≤ B) : ∀ n, (∀ i, i < n → c + (sy.2 i).1 ≤ B) → srt (gon k c pay sy acc n) ∧ (gon k c pay sy acc n).1 ≤ k ∧ ∀ i, i < (gon k c pay sy acc n).1 → ((gon k c pay sy acc n).2 i).1 ≤ B
  | 0, _ => ⟨ha, hn, hb⟩
  | n + 1, h => by
    obtain ⟨i1, i2, i3⟩ := gon_inv ha hn hb n (fun i hi => h i (by omega))
    exact ⟨ins_srt i1 i2, ins_le _ _ _ i2, ins_bd i2 i3 (h n (by omega))⟩
/-- once full of nothing dearer, it stays so -/
theorem gon_stop {α : Type} {k c : Nat} {pay : Nat → α → α} {sy acc : Sh α} (hsy : srt sy) {i : Nat} (hi : i < sy.1) (h1 : (gon k c pay sy acc i).1 = k) (h2 : ∀ j, j < k → ((gon k c pay sy acc i).2 j).1 ≤ c + (sy.2 i).1) : ∀ n, i ≤ n → n ≤ sy.1 → shE (gon k c pay sy acc i) (gon k c pay sy acc n) := by
  intro n
  induction n with
  | zero =>
    intro h _
    have : i = 0 := by omega
    subst this
    exact ⟨rfl, fun _ _ => rfl⟩
  | succ n ih =>
    intro h hn
    by_cases e : i = n + 1
    · subst e
      exact ⟨rfl, fun _ _ => rfl⟩
    · obtain ⟨j1, j2⟩ := ih (by omega) (by omega)
      have hle := hsy i n (by omega) (by omega)
      have full := ins_full (k := k) (c := c + (sy.2 n).1) (s := gon k c pay sy acc n) (x := pay n (sy.2 n).2) (by rw [← j1, h1]) (fun t ht => by
        rw [← j2 t (by omega)]
        have := h2 t ht
        omega)
      exact ⟨j1.trans full.1, fun t ht => (j2 t ht).trans (full.2 t (by omega))⟩
theorem rpC_E {ends : Nat → Int64} {ecost ecnt : Nat → Int32} {x : Nat} {s t : Sh Int64} (h : rpC ends ecost ecnt x s) (he : shE s t) : rpC ends ecost ecnt x t := by
  refine ⟨by rw [← he.1]; exact h.1, fun i hi => ?_⟩
  rw [← he.2 i (by rw [he.1]; exact hi)]
  exact h.2 i (by rw [he.1]; exact hi)
abbrev payC (x : Nat) : Nat → Int64 → Int64 := fun _ m => m ||| zShl 1 (nI x)
set_option maxHeartbeats 2000000 in
theorem ok0_goOn {nW : Nat} (hW : nW ≤ 60) {ends : Nat → Int64} {ecost ecnt : Nat → Int32} {x y k c B : Nat} {sy acc : Sh Int64} (hx : x ≤ nW) (hy : y ≤ nW) (hxy : y ≠ x) (hk1 : 1 ≤ k) (hk : k ≤ 40) (ry : rpC ends ecost ecnt y sy) (hsy : srt sy) (hny : sy.1 ≤ 40) (ra : rpC ends ecost ecnt x acc) (hsa : srt acc) (hna : acc.1 ≤ k) (hB : B < 2 ^ 30) (hba : ∀ i, i < acc.1 → (acc.2 i).1 ≤ B) (hbc : ∀ i, i < sy.1 → c + (sy.2 i).1 ≤ B) {Post : (Nat → Int64) → (Nat → Int32) → (Nat → Int32) → Prop}
    (hp : ∀ (ends' : Nat → Int64) (ecost' ecnt' : Nat → Int32), rpC ends' ecost' ecnt' x (gon k c (payC x) sy acc sy.1) → fr0 x ends ends' ecost ecost' ecnt ecnt' → Post ends' ecost' ecnt') : wX0_goOnFrom nW ends ecost ecnt (nI y) (nI x) (nI c) (nI k) Post := by
  unfold wX0_goOnFrom
  refine ⟨y, rfl, by omega, by omega, ?_⟩
  intro x5 e5
  rw [ry.1] at e5
  subst e5
  refine pk_loop (fun n i (q : (Nat → Int64) × (Nat → Int32) × (Nat → Int32)) => lX0_goOnFrom_11 nW (nI y) (nI x) (nI c) (nI k) Post n (nI sy.1) (nI i) q.1 q.2.1 q.2.2) (fun i q => rpC q.1 q.2.1 q.2.2 x (gon k c (payC x) sy acc i) ∧ fr0 x ends q.1 ecost q.2.1 ecnt q.2.2) sy.1 0 (ends, ecost, ecnt) (Nat.zero_le _) ⟨ra, fr0_rf _ _ _ _⟩ ?_ ?_
  · intro n q hI
    show bX0_goOnFrom_11 nW (nI y) (nI x) (nI c) (nI k) Post (lX0_goOnFrom_11 nW (nI y) (nI x) (nI c) (nI k) Post n) (nI sy.1) (nI sy.1) q.1 q.2.1 q.2.2
    unfold bX0_goOnFrom_11
    exact br_t (nI_le (Nat.le_refl _) (by omega)) (hp _ _ _ hI.1 hI.2)
  · intro n i q hi hI ih
    obtain ⟨e1, c1, n1⟩ := q
    obtain ⟨hI1, hI2⟩ := hI
    dsimp only at hI1 hI2
    show bX0_goOnFrom_11 nW (nI y) (nI x) (nI c) (nI k) Post (lX0_goOnFrom_11 nW (nI y) (nI x) (nI c) (nI k) Post n) (nI sy.1) (nI i) e1 c1 n1
    unfold bX0_goOnFrom_11 wX0_shelf
    have ry1 := rpC_fr ry hny hI2 hxy
    refine br_f (nI_ge hi (by omega)) ?_
    intro x7 e7
    rw [show (nI y * 40 : Int32) = nI (40 * y) by rw [show (40 : Int32) = nI 40 from rfl, pk_mul, Nat.mul_comm], nI_add] at e7
    subst e7
    refine ⟨_, rfl, by omega, by omega, _, rfl, by omega, by omega, ?_⟩
    dsimp only
    rw [(ry1.2 i hi).1, (ry1.2 i hi).2, nI_add]
    obtain ⟨g1, g2, g3⟩ := gon_inv (pay := payC x) (sy := sy) (c := c) hsa hna hba i (fun t ht => hbc t (by omega))
    have hci := hbc i hi
    refine ok0_shelve hW hx hk1 hk hI1 g2 g1 (fun t ht => by have := g3 t ht; omega) (by omega) ?_ ?_
    · intro e2 c2 n2 h1 h2
      refine br_f (by decide) ?_
      rw [i1]
      exact ih (e2, c2, n2) ⟨h1, fr0_tr hI2 h2⟩
    · intro h1 h2
      refine br_t rfl (hp _ _ _ (rpC_E hI1 (gon_stop hsy hi h1 h2 sy.1 (by omega) (Nat.le_refl _))) hI2)
