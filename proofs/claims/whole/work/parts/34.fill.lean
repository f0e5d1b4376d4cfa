/-! ===== the reference's fill ===== -/
def fr1 (x : Nat) (mn mn' : Nat → Int32) (cs cs' : Nat → Int64) (nx nx' gs gs' : Nat → Int32) : Prop := (∀ y, y ≠ x → mn' y = mn y) ∧ ∀ i, (i < 40 * x ∨ 40 * x + 40 ≤ i) → cs' i = cs i ∧ nx' i = nx i ∧ gs' i = gs i
theorem fr1_tr {x : Nat} {m0 m1 m2 : Nat → Int32} {c0 c1 c2 : Nat → Int64} {n0 n1 n2 g0 g1 g2 : Nat → Int32} (h : fr1 x m0 m1 c0 c1 n0 n1 g0 g1) (h2 : fr1 x m1 m2 c1 c2 n1 n2 g1 g2) : fr1 x m0 m2 c0 c2 n0 n2 g0 g2 := ⟨fun y hy => (h2.1 y hy).trans (h.1 y hy), fun i hi => ⟨(h2.2 i hi).1.trans (h.2 i hi).1, (h2.2 i hi).2.1.trans (h.2 i hi).2.1, (h2.2 i hi).2.2.trans (h.2 i hi).2.2⟩⟩
theorem rpR_fr {x y : Nat} {m0 m1 : Nat → Int32} {c0 c1 : Nat → Int64} {n0 n1 g0 g1 : Nat → Int32} {s : Sh (Int32 × Int32)} (h : rpR m0 c0 n0 g0 y s) (hf : fr1 x m0 m1 c0 c1 n0 n1 g0 g1) (hxy : y ≠ x) : rpR m1 c1 n1 g1 y s := by
  obtain ⟨r1, r2, r3⟩ := h
  refine ⟨(hf.1 y hxy).trans r1, r2, fun i hi => ?_⟩
  obtain ⟨f1, f2, f3⟩ := hf.2 (40 * y + i) (by omega)
  obtain ⟨k1, k2, k3⟩ := r3 i hi
  exact ⟨f1.trans k1, f2.trans k2, f3.trans k3⟩
abbrev pyR : Nat → Nat → Nat → Int32 × Int32 → Int32 × Int32 := fun _ y i _ => (nI y, nI i)
/-- the reference's shelves -/
def tR (nW nH : Nat) (d : Nat → Nat → Bool) : Nat → Nat → Sh (Int32 × Int32) := tbl nW nH d 40 pyR (-1, -1)
theorem mayS_stp {nW nH : Nat} {d : Nat → Nat → Bool} {y : Nat} (h1 : fFrom nW nH d < y) (h2 : y ≤ fUntil nW nH d) : mayS nW nH d y = stp nW nH d y := by
  unfold mayS stp mC
  rw [decide_eq_false (show ¬ y = fFrom nW nH d by omega), Bool.false_or, decide_eq_true h1, Bool.true_and, Bool.or_comm]
  by_cases e : y = fUntil nW nH d
  · rw [decide_eq_true e]
    simp
  · rw [decide_eq_false e, decide_eq_true (show y < fUntil nW nH d by omega)]
    rfl
theorem vSg_edge {nW nH : Nat} {d : Nat → Nat → Bool} {x y : Nat} (hx : mayS nW nH d x = true) (h1 : fFrom nW nH d < y) (h2 : y ≤ fUntil nW nH d) : vSg nW nH d x y = if edg nW nH d x y = true then lN (sgC (fDue nW nH d) nH d x (y - x)) else -1 := by
  unfold vSg edg aSign
  rw [hx, Bool.true_and, mayS_stp h1 h2]
  cases stp nW nH d y with
  | false => rfl
  | true =>
    by_cases z : 0 < sgN nH d x (y - x)
    · rw [if_pos rfl, if_pos z, if_pos (by rw [decide_eq_true z]; rfl)]
    · rw [if_pos rfl, if_neg z, if_neg (by rw [decide_eq_false z]; decide)]
set_option maxHeartbeats 4000000 in
theorem ok1_fill {nW nH : Nat} {d : Nat → Nat → Bool} {dk : Nat → Int32} (hs : szs nW nH) (h : hld1 nW nH d dk) (hd : hasD nW nH d) {wd : Int32} {mn : Nat → Int32} {cs : Nat → Int64} {nx gs : Nat → Int32} {sg : Nat → Int64} {my : Nat → Int32} {Post : Int32 → (Nat → Int32) → (Nat → Int64) → (Nat → Int32) → (Nat → Int32) → (Nat → Int64) → (Nat → Int32) → Prop}
    (hp : ∀ (mn' : Nat → Int32) (cs' : Nat → Int64) (nx' gs' : Nat → Int32) (sg' : Nat → Int64) (my' : Nat → Int32), (∀ y, fFrom nW nH d ≤ y → y ≤ fUntil nW nH d → mayS nW nH d y = true → rpR mn' cs' nx' gs' y (tR nW nH d (fUntil nW nH d - fFrom nW nH d) y)) → Post (nI (fDue nW nH d)) mn' cs' nx' gs' sg' my') : wX1_fill nW nH dk wd mn cs nx gs sg my (nI (fFrom nW nH d)) (nI (fUntil nW nH d)) Post := by
  obtain ⟨h1, h2, h3, h4⟩ := id hs
  obtain ⟨q1, q2, q3, q4, q5⟩ := fFrom_lt hd
  unfold wX1_fill
  refine ok1_look hs h hd (fun sg' my' hmy hsg => ?_)
  have gd : ∀ t, t ≤ fUntil nW nH d → ∀ y, fUntil nW nH d - t ≤ y → y ≤ fUntil nW nH d → good 40 (fUntil nW nH d) y (tR nW nH d t y) := fun t ht y y1 y2 => tbl_good hs (by decide) _ _ (by omega) t ht y y1 y2
  -- from the right to the left
  have main : ∀ q : (Nat → Int32) × (Nat → Int64) × (Nat → Int32) × (Nat → Int32), (∀ y, fUntil nW nH d ≤ y → y ≤ fUntil nW nH d → mayS nW nH d y = true → rpR q.1 q.2.1 q.2.2.1 q.2.2.2 y (tR nW nH d 0 y)) → lX1_fill_8 nW nH dk (nI (fFrom nW nH d)) (nI (fUntil nW nH d)) Post (fUntil nW nH d - fFrom nW nH d + 1) (nI (fFrom nW nH d + (fUntil nW nH d - fFrom nW nH d)) - 1) (nI (fDue nW nH d)) q.1 q.2.1 q.2.2.1 q.2.2.2 sg' my' := by
    intro q hq
    refine pk_loopD (fun n t (q : (Nat → Int32) × (Nat → Int64) × (Nat → Int32) × (Nat → Int32)) => t ≤ fUntil nW nH d - fFrom nW nH d → lX1_fill_8 nW nH dk (nI (fFrom nW nH d)) (nI (fUntil nW nH d)) Post n (nI (fFrom nW nH d + t) - 1) (nI (fDue nW nH d)) q.1 q.2.1 q.2.2.1 q.2.2.2 sg' my') (fun t q => ∀ y, fFrom nW nH d + t ≤ y → y ≤ fUntil nW nH d → mayS nW nH d y = true → rpR q.1 q.2.1 q.2.2.1 q.2.2.2 y (tR nW nH d (fUntil nW nH d - fFrom nW nH d - t) y)) ?_ ?_ (fUntil nW nH d - fFrom nW nH d) q (by
        intro y y1 y2 y3
        rw [show fUntil nW nH d - fFrom nW nH d - (fUntil nW nH d - fFrom nW nH d) = 0 by omega]
        exact hq y (by omega) y2 y3) (Nat.le_refl _)
    · intro n q hI _
      show bX1_fill_8 nW nH dk (nI (fFrom nW nH d)) (nI (fUntil nW nH d)) Post (lX1_fill_8 nW nH dk (nI (fFrom nW nH d)) (nI (fUntil nW nH d)) Post n) (nI (fFrom nW nH d + 0) - 1) (nI (fDue nW nH d)) q.1 q.2.1 q.2.2.1 q.2.2.2 sg' my'
      unfold bX1_fill_8
      refine br_t ?_ (hp _ _ _ _ _ _ (fun y y1 y2 y3 => hI y (by omega) y2 y3))
      rcases Nat.eq_zero_or_pos (fFrom nW nH d) with z | z
      · rw [z]
        decide
      · rw [Nat.add_zero, show (1 : Int32) = nI 1 from rfl, pk_sub z]
        exact nI_lt (by omega) (by omega)
    · intro n t q hI ih ht
      obtain ⟨m0, c0, n0, g0⟩ := q
      dsimp only at hI
      show bX1_fill_8 nW nH dk (nI (fFrom nW nH d)) (nI (fUntil nW nH d)) Post (lX1_fill_8 nW nH dk (nI (fFrom nW nH d)) (nI (fUntil nW nH d)) Post n) (nI (fFrom nW nH d + (t + 1)) - 1) (nI (fDue nW nH d)) m0 c0 n0 g0 sg' my'
      rw [show fFrom nW nH d + (t + 1) = (fFrom nW nH d + t) + 1 by omega, m1]
      generalize ex : fFrom nW nH d + t = x at *
      have hxU : x < fUntil nW nH d := by omega
      obtain ⟨m, hm⟩ : ∃ m, fUntil nW nH d - fFrom nW nH d - (t + 1) = m := ⟨_, rfl⟩
      have hm2 : fUntil nW nH d - fFrom nW nH d - t = m + 1 := by omega
      have hmx : fUntil nW nH d - (m + 1) = x := by omega
      rw [hm] at hI
      rw [hm2] at ih
      unfold bX1_fill_8
      refine br_f (nI_nlt (by omega) (by omega)) ⟨x, rfl, by omega, by omega, ?_⟩
      dsimp only
      refine br_f (fun q => by rw [nI_eq (by omega) (by omega)] at q; omega) ⟨x, rfl, by omega, by omega, ?_⟩
      dsimp only
      rw [hmy x (by omega) (by omega), am1]
      have old : ∀ y, y ≠ x → tR nW nH d (m + 1) y = tR nW nH d m y := fun y hy => tbl_st (by omega)
      have f0 : fr1 x m0 (upd m0 x 0) c0 c0 n0 n0 g0 g0 := ⟨fun y hy => pk_un hy, fun i _ => ⟨rfl, rfl, rfl⟩⟩
      refine br_c (fun c => ?_) (fun c => ?_)
      · rw [bI_0] at c
        refine ih (upd m0 x 0, c0, n0, g0) (fun y y1 y2 y3 => ?_) (by omega)
        have hy : y ≠ x := fun e => by rw [e, c] at y3; cases y3
        rw [old y hy]
        exact rpR_fr (hI y (by omega) y2 y3) f0 hy
      · rw [bI_0, Bool.not_eq_false] at c
        intro x4 e4
        rw [i1] at e4
        subst e4
        have r8h : ∀ (m1 : Nat → Int32) (c1 : Nat → Int64) (n1 g1 : Nat → Int32), rpR m1 c1 n1 g1 x (tR nW nH d (m + 1) x) → fr1 x m0 m1 c0 c1 n0 n1 g0 g1 → lX1_fill_8 nW nH dk (nI (fFrom nW nH d)) (nI (fUntil nW nH d)) Post n (nI x - 1) (nI (fDue nW nH d)) m1 c1 n1 g1 sg' my' := fun m1 c1 n1 g1 k1 k2 => by
          refine ih (m1, c1, n1, g1) (fun y y1 y2 y3 => ?_) (by omega)
          by_cases hy : y = x
          · rw [hy]
            exact k1
          · rw [old y hy]
            exact rpR_fr (hI y (by omega) y2 y3) k2 hy
        have eAt : tR nW nH d (m + 1) x = atx nW nH d 40 (pyR x) (tR nW nH d m) (0, fun _ => (0, (-1, -1))) x (fUntil nW nH d - x) := by
          have e := tbl_at (nW := nW) (nH := nH) (d := d) (k := 40) (pay := pyR) (e0 := ((-1 : Int32), (-1 : Int32))) (m := m)
          rw [hmx] at e
          unfold tR
          rw [e, show fUntil nW nH d - x = m + 1 by omega]
        rw [eAt] at r8h
        generalize lX1_fill_8 nW nH dk (nI (fFrom nW nH d)) (nI (fUntil nW nH d)) Post n = r8 at r8h
        have hgood : ∀ y, x < y → y ≤ fUntil nW nH d → good 40 (fUntil nW nH d) y (tR nW nH d m y) := fun y y1 y2 => gd m (by omega) y (by omega) y2
        -- each place behind it
        refine pk_loop (fun n j (q : (Nat → Int32) × (Nat → Int64) × (Nat → Int32) × (Nat → Int32)) => lX1_fill_50 nW nH dk (nI (fFrom nW nH d)) (nI (fUntil nW nH d)) Post r8 n (nI x) (nI (x + 1 + j)) (nI (fDue nW nH d)) q.1 q.2.1 q.2.2.1 q.2.2.2 sg' my') (fun j q => rpR q.1 q.2.1 q.2.2.1 q.2.2.2 x (atx nW nH d 40 (pyR x) (tR nW nH d m) (0, fun _ => (0, (-1, -1))) x j) ∧ fr1 x m0 q.1 c0 q.2.1 n0 q.2.2.1 g0 q.2.2.2) (fUntil nW nH d - x) 0 (upd m0 x 0, c0, n0, g0) (Nat.zero_le _) ⟨⟨pk_us, Nat.zero_le _, fun i hi => absurd hi (Nat.not_lt_zero i)⟩, f0⟩ ?_ ?_
        · intro n q hI2
          show bX1_fill_50 nW nH dk (nI (fFrom nW nH d)) (nI (fUntil nW nH d)) Post r8 (lX1_fill_50 nW nH dk (nI (fFrom nW nH d)) (nI (fUntil nW nH d)) Post r8 n) (nI x) (nI (x + 1 + (fUntil nW nH d - x))) (nI (fDue nW nH d)) q.1 q.2.1 q.2.2.1 q.2.2.2 sg' my'
          unfold bX1_fill_50
          refine br_t (nI_lt (by omega) (by omega)) ?_
          rw [am1]
          exact r8h _ _ _ _ hI2.1 hI2.2
        · intro n j q hj hI2 ih2
          obtain ⟨m1, c1, n1, g1⟩ := q
          obtain ⟨hr, hf⟩ := hI2
          dsimp only at hr hf
          show bX1_fill_50 nW nH dk (nI (fFrom nW nH d)) (nI (fUntil nW nH d)) Post r8 (lX1_fill_50 nW nH dk (nI (fFrom nW nH d)) (nI (fUntil nW nH d)) Post r8 n) (nI x) (nI (x + 1 + j)) (nI (fDue nW nH d)) m1 c1 n1 g1 sg' my'
          unfold bX1_fill_50
          obtain ⟨y, hy⟩ : ∃ y, x + 1 + j = y := ⟨_, rfl⟩
          have hxy : x + j + 1 = y := by omega
          rw [hy]
          refine br_f (nI_nlt (by omega) (by omega)) ⟨61 * x + y, by rw [show (61 : Int32) = nI 61 from rfl, pk_mul, nI_add], by omega, by omega, ?_⟩
          intro x5 e5
          rw [hsg x y (by omega) (by omega) (by omega), vSg_edge c (by omega) (by omega)] at e5
          have nxt : ∀ (m2 : Nat → Int32) (c2 : Nat → Int64) (n2 g2 : Nat → Int32), rpR m2 c2 n2 g2 x (atx nW nH d 40 (pyR x) (tR nW nH d m) (0, fun _ => (0, (-1, -1))) x (j + 1)) → fr1 x m0 m2 c0 c2 n0 n2 g0 g2 → lX1_fill_50 nW nH dk (nI (fFrom nW nH d)) (nI (fUntil nW nH d)) Post r8 n (nI x) (nI y + 1) (nI (fDue nW nH d)) m2 c2 n2 g2 sg' my' := fun m2 c2 n2 g2 k1 k2 => by
            have := ih2 (m2, c2, n2, g2) ⟨k1, k2⟩
            rw [show x + 1 + (j + 1) = y + 1 by omega, ← i1] at this
            exact this
          have eS : atx nW nH d 40 (pyR x) (tR nW nH d m) (0, fun _ => (0, (-1, -1))) x (j + 1) = if edg nW nH d x y then gon 40 (ecs nW nH d x y) (pyR x y) (tR nW nH d m y) (atx nW nH d 40 (pyR x) (tR nW nH d m) (0, fun _ => (0, (-1, -1))) x j) (tR nW nH d m y).1 else atx nW nH d 40 (pyR x) (tR nW nH d m) (0, fun _ => (0, (-1, -1))) x j := by
            rw [← hxy]
            rfl
          rw [eS] at nxt
          generalize lX1_fill_50 nW nH dk (nI (fFrom nW nH d)) (nI (fUntil nW nH d)) Post r8 n = r50 at nxt
          by_cases ee : edg nW nH d x y = true
          · rw [if_pos ee] at e5 nxt
            subst e5
            have es : mayS nW nH d y = true := by
              rw [mayS_stp (by omega) (by omega)]
              unfold edg at ee
              rw [Bool.and_eq_true] at ee
              exact ee.1
            have ga := atx_good (d := d) (pay := pyR x) (f := fun _ => (0, ((-1 : Int32), (-1 : Int32)))) hs (show fUntil nW nH d ≤ 60 by omega) (fun z z1 z2 _ => hgood z z1 z2) j (by omega)
            have gy := hgood y (by omega) (by omega)
            have he := ecs_le (d := d) hs (a := x) (show y ≤ 60 by omega)
            have ry0 := rpR_fr (hI y (by omega) (by omega) es) hf (by omega)
            -- each of its shelf
            refine pk_loop (fun n i (q : (Nat → Int32) × (Nat → Int64) × (Nat → Int32) × (Nat → Int32)) => lX1_fill_73 nW nH dk (nI (fFrom nW nH d)) (nI (fUntil nW nH d)) Post r8 r50 n (nI x) (nI y) (lN (sgC (fDue nW nH d) nH d x (y - x))) (nI i) (nI (fDue nW nH d)) q.1 q.2.1 q.2.2.1 q.2.2.2 sg' my') (fun i q => rpR q.1 q.2.1 q.2.2.1 q.2.2.2 x (gon 40 (ecs nW nH d x y) (pyR x y) (tR nW nH d m y) (atx nW nH d 40 (pyR x) (tR nW nH d m) (0, fun _ => (0, (-1, -1))) x j) i) ∧ fr1 x m1 q.1 c1 q.2.1 n1 q.2.2.1 g1 q.2.2.2) (tR nW nH d m y).1 0 (m1, c1, n1, g1) (Nat.zero_le _) ⟨hr, ⟨fun _ _ => rfl, fun _ _ => ⟨rfl, rfl, rfl⟩⟩⟩ ?_ ?_
            · intro n q hI3
              show bX1_fill_73 nW nH dk (nI (fFrom nW nH d)) (nI (fUntil nW nH d)) Post r8 r50 (lX1_fill_73 nW nH dk (nI (fFrom nW nH d)) (nI (fUntil nW nH d)) Post r8 r50 n) (nI x) (nI y) _ (nI (tR nW nH d m y).1) (nI (fDue nW nH d)) q.1 q.2.1 q.2.2.1 q.2.2.2 sg' my'
              unfold bX1_fill_73
              have ry := rpR_fr ry0 hI3.2 (by omega)
              refine ⟨y, rfl, by omega, by omega, ?_⟩
              dsimp only
              rw [ry.1]
              have := ry.2.1
              exact br_t (nI_le (Nat.le_refl _) (by omega)) (nxt _ _ _ _ hI3.1 (fr1_tr hf hI3.2))
            · intro n i q hi hI3 ih3
              obtain ⟨m2, c2, n2, g2⟩ := q
              obtain ⟨hr2, hf2⟩ := hI3
              dsimp only at hr2 hf2
              show bX1_fill_73 nW nH dk (nI (fFrom nW nH d)) (nI (fUntil nW nH d)) Post r8 r50 (lX1_fill_73 nW nH dk (nI (fFrom nW nH d)) (nI (fUntil nW nH d)) Post r8 r50 n) (nI x) (nI y) _ (nI i) (nI (fDue nW nH d)) m2 c2 n2 g2 sg' my'
              unfold bX1_fill_73
              have ry := rpR_fr ry0 hf2 (by omega)
              have hle := ry.2.1
              have hcost := gy.2.2 i hi
              have hC := sgC_le (P := fDue nW nH d) (nH := nH) (d := d) (a := x) (j := y - x) (Nat.le_trans (fDue_le d hs) (by decide)) (by omega) h4
              have ht := tch_le nH d y
              refine ⟨y, rfl, by omega, by omega, ?_⟩
              dsimp only
              rw [ry.1]
              refine br_f (nI_ge hi (by omega)) (br_f ?_ ?_)
              · rw [lg_cmp_lt, show (0 : Int64) = lN 0 from rfl, lN_lt (by omega) (by decide)]
                omega
              · have call : ∀ e : Nat, sgC (fDue nW nH d) nH d x (y - x) + e = ecs nW nH d x y → jX1_fill_117 nW nH dk (nI (fFrom nW nH d)) (nI (fUntil nW nH d)) Post r8 r50 (lX1_fill_73 nW nH dk (nI (fFrom nW nH d)) (nI (fUntil nW nH d)) Post r8 r50 n) (nI x) (nI y) (lN (sgC (fDue nW nH d) nH d x (y - x))) (nI i) (lN e) (lN (sgC (fDue nW nH d) nH d x (y - x))) (nI x) (nI (fDue nW nH d)) m2 c2 n2 g2 sg' my' := fun e hee => by
                  unfold jX1_fill_117
                  refine ⟨40 * y + i, by rw [show (40 : Int32) = nI 40 from rfl, pk_mul, nI_add], by omega, by omega, ?_⟩
                  dsimp only
                  rw [(ry.2.2 i hi).1, lN_add, lN_add, hee]
                  obtain ⟨b1, b2, b3⟩ := gon_inv (pay := pyR x y) (sy := tR nW nH d m y) (c := ecs nW nH d x y) (B := 4400 * (fUntil nW nH d - x)) ga.1 ga.2.1 ga.2.2 i (fun z hz => by have := gy.2.2 z (by omega); omega)
                  refine ok1_keep (by omega) hr2 b1 (fun z hz => by have := b3 z hz; omega) (by omega) (fun m3 c3 n3 g3 k1 k2 k3 => ?_)
                  rw [i1]
                  exact ih3 (m3, c3, n3, g3) ⟨k1, fr1_tr hf2 ⟨k2, k3⟩⟩
                refine br_c (fun c3 => ?_) (fun c3 => ?_)
                · rw [nI_leI (by omega) (by omega)] at c3
                  refine call 0 ?_
                  unfold ecs
                  rw [if_neg (by omega)]
                · rw [nI_leI (by omega) (by omega)] at c3
                  refine ok1_touch hs h (by omega) (by omega) ?_
                  rw [nI_l (by omega), show (10 : Int64) = lN 10 from rfl, lN_mul]
                  refine call _ ?_
                  unfold ecs
                  rw [if_pos (by omega)]
          · rw [if_neg ee] at e5 nxt
            subst e5
            refine ⟨1, ?_⟩
            show bX1_fill_73 nW nH dk (nI (fFrom nW nH d)) (nI (fUntil nW nH d)) Post r8 r50 (lX1_fill_73 nW nH dk (nI (fFrom nW nH d)) (nI (fUntil nW nH d)) Post r8 r50 0) (nI x) (nI y) (-1) 0 (nI (fDue nW nH d)) m1 c1 n1 g1 sg' my'
            unfold bX1_fill_73
            refine ⟨y, rfl, by omega, by omega, br_c (fun _ => nxt _ _ _ _ hr hf) (fun _ => br_t ?_ (nxt _ _ _ _ hr hf))⟩
            rw [lg_cmp_lt]
            decide
  -- UNTIL itself
  refine ⟨fUntil nW nH d - fFrom nW nH d + 1 + 1, ?_⟩
  show bX1_fill_8 nW nH dk (nI (fFrom nW nH d)) (nI (fUntil nW nH d)) Post (lX1_fill_8 nW nH dk (nI (fFrom nW nH d)) (nI (fUntil nW nH d)) Post (fUntil nW nH d - fFrom nW nH d + 1)) (nI (fUntil nW nH d)) (nI (fDue nW nH d)) mn cs nx gs sg' my'
  unfold bX1_fill_8
  refine br_f (nI_nlt (by omega) (by omega)) ⟨fUntil nW nH d, rfl, by omega, by omega, br_t rfl ?_⟩
  have key := ok1_keep (mn := upd mn (fUntil nW nH d) 0) (cs := cs) (nx := nx) (gs := gs) (x := fUntil nW nH d) (s := (0, fun _ => (0, (-1, -1)))) (by omega) ⟨pk_us, Nat.zero_le _, fun i hi => absurd hi (Nat.not_lt_zero i)⟩ (fun i j _ hj => absurd hj (Nat.not_lt_zero j)) (fun i hi => absurd hi (Nat.not_lt_zero i)) (c := 0) (by decide) (a4 := -1) (a5 := -1) (Post := fun m1 c1 n1 g1 => lX1_fill_8 nW nH dk (nI (fFrom nW nH d)) (nI (fUntil nW nH d)) Post (fUntil nW nH d - fFrom nW nH d + 1) (nI (fUntil nW nH d) + (-1)) (nI (fDue nW nH d)) m1 c1 n1 g1 sg' my') (fun m1 c1 n1 g1 k1 k2 k3 => by
    have := main (m1, c1, n1, g1) (fun y y1 y2 _ => by
      have e : y = fUntil nW nH d := by omega
      subst e
      obtain ⟨r1, r2, r3⟩ := k1
      refine ⟨r1, by show 1 ≤ 40; decide, fun i hi => ?_⟩
      have hi : i < 1 := hi
      have e : i = 0 := by omega
      subst e
      exact r3 0 (by show 0 < 1; decide))
    rw [show fFrom nW nH d + (fUntil nW nH d - fFrom nW nH d) = fUntil nW nH d by omega] at this
    rw [am1]
    exact this)
  exact key
