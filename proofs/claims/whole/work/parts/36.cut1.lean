/-! ===== the reference's cut ===== -/
theorem getD_app (a b : List Nat) (j : Nat) : (a ++ b).getD j 0 = if j < a.length then a.getD j 0 else b.getD (j - a.length) 0 := by
  by_cases h : j < a.length
  · rw [if_pos h]
    simp [List.getD, List.getElem?_append_left h]
  · rw [if_neg h]
    simp [List.getD, List.getElem?_append_right (show a.length ≤ j by omega)]
set_option maxHeartbeats 4000000 in
theorem ok1_cut {nW nH : Nat} {d : Nat → Nat → Bool} {dk : Nat → Int32} (hs : szs nW nH) (h : hld1 nW nH d dk) {th fn wd : Int32} {mn : Nat → Int32} {cs : Nat → Int64} {nx gs : Nat → Int32} {pr : Nat → Int64} {ln wy : Nat → Int32} {sg : Nat → Int64} {my : Nat → Int32} {a : Int32} {Post : Int32 → Int32 → Int32 → Int32 → (Nat → Int32) → (Nat → Int64) → (Nat → Int32) → (Nat → Int32) → (Nat → Int64) → (Nat → Int32) → (Nat → Int32) → (Nat → Int64) → (Nat → Int32) → Prop}
    (hp1 : (a < 1 ∨ ¬ a ≤ 40) → Post (-1) 0 fn wd mn cs nx gs pr ln wy sg my)
    (hp2 : ¬ a < 1 → a ≤ 40 → rM nW nH d = 0 → Post 0 0 0 wd mn cs nx gs pr ln wy sg my)
    (hp3 : ∀ k : Nat, 1 ≤ k → k ≤ 40 → a = nI k → ¬ rM nW nH d = 0 → ∀ (fn' wd' : Int32) (mn' : Nat → Int32) (cs' : Nat → Int64) (nx' gs' : Nat → Int32) (pr' : Nat → Int64) (ln' wy' : Nat → Int32) (sg' : Nat → Int64) (my' : Nat → Int32), rf1 (lsK nW nH d k) fn' pr' ln' wy' → Post fn' 0 fn' wd' mn' cs' nx' gs' pr' ln' wy' sg' my') : wX1_cut nW nH dk th fn wd mn cs nx gs pr ln wy sg my a Post := by
  obtain ⟨h1, h2, h3, h4⟩ := id hs
  unfold wX1_cut
  refine br_c (fun c => hp1 (Or.inl c)) (fun c => br_c (fun c2 => ?_) (fun c2 => hp1 (Or.inr c2)))
  obtain ⟨k, hk, ek⟩ : ∃ k : Nat, k ≤ 40 ∧ a = nI k := by
    refine nI_of2 (M := 40) rfl (fun q => c ?_) c2
    rw [Int32.lt_iff_toInt_lt] at q ⊢
    have e0 : (0 : Int32).toInt = 0 := rfl
    have e1 : (1 : Int32).toInt = 1 := rfl
    rw [e0] at q
    rw [e1]
    omega
  have hk1 : 1 ≤ k := by
    rcases Nat.eq_zero_or_pos k with z | z
    · subst z
      rw [ek] at c
      exact absurd (by decide) c
    · exact z
  have bM := rM_le nW nH d
  refine ok1_mostInRow hs h ?_
  by_cases hz : rM nW nH d = 0
  · rw [hz]
    exact br_t rfl (hp2 c c2 hz)
  · have hd := hasD_iff.mpr hz
    obtain ⟨q1, q2, q3, q4, q5⟩ := fFrom_lt hd
    refine br_f (nI_ne0 (by omega) (by omega)) (ok1_from hs h hd (ok1_until hs h hd (ok1_fill hs h hd (fun m1 c1 n1 g1 s1 y1 hr => ?_))))
    have hF : mayS nW nH d (fFrom nW nH d) = true := by
      unfold mayS
      rw [decide_eq_true rfl]
      rfl
    have rF := hr (fFrom nW nH d) (Nat.le_refl _) (by omega) hF
    have hsz := rF.2.1
    have eT : ∀ y, (tR nW nH d (fUntil nW nH d - fFrom nW nH d) y).1 = (tA nW nH d 40 (fUntil nW nH d - fFrom nW nH d) y).1 := fun y => by rw [tR_A]; rfl
    have hok := lsK_ok hs hd hk
    -- the ways, one behind the other
    have ways : ∀ f : Int32, f = nI (lsK nW nH d k).1 → ∃ n : Nat, lX1_cut_72 nW nH dk a Post n (nI (fFrom nW nH d)) 0 0 f (nI (fDue nW nH d)) m1 c1 n1 g1 pr ln wy s1 y1 := fun f ef => by
      subst ef
      refine pk_loop (fun n w (q : (Nat → Int64) × (Nat → Int32) × (Nat → Int32)) => lX1_cut_72 nW nH dk a Post n (nI (fFrom nW nH d)) (nI w) 0 (nI (lsK nW nH d k).1) (nI (fDue nW nH d)) m1 c1 n1 g1 q.1 q.2.1 q.2.2 s1 y1) (fun w q => ∀ w', w' < w → q.1 w' = lN ((lsK nW nH d k).2 w').1 ∧ q.2.1 w' = nI ((lsK nW nH d k).2 w').2.length ∧ ∀ j, j < ((lsK nW nH d k).2 w').2.length → q.2.2 (62 * w' + j) = nI (((lsK nW nH d k).2 w').2.getD j 0)) (lsK nW nH d k).1 0 (pr, ln, wy) (Nat.zero_le _) (fun w' hw => absurd hw (Nat.not_lt_zero w')) ?_ ?_
      · intro n q hI
        show bX1_cut_72 nW nH dk a Post (lX1_cut_72 nW nH dk a Post n) (nI (fFrom nW nH d)) (nI (lsK nW nH d k).1) 0 (nI (lsK nW nH d k).1) (nI (fDue nW nH d)) m1 c1 n1 g1 q.1 q.2.1 q.2.2 s1 y1
        unfold bX1_cut_72
        have := hok.1
        exact br_t (nI_le (Nat.le_refl _) (by omega)) (hp3 k hk1 hk ek hz _ _ _ _ _ _ _ _ _ _ _ ⟨rfl, hI⟩)
      · intro n w q hw hI ih
        obtain ⟨p0, l0, w0⟩ := q
        dsimp only at hI
        show bX1_cut_72 nW nH dk a Post (lX1_cut_72 nW nH dk a Post n) (nI (fFrom nW nH d)) (nI w) 0 (nI (lsK nW nH d k).1) (nI (fDue nW nH d)) m1 c1 n1 g1 p0 l0 w0 s1 y1
        unfold bX1_cut_72
        have hw40 := hok.1
        have hwA : w < (tA nW nH d 40 (fUntil nW nH d - fFrom nW nH d) (fFrom nW nH d)).1 := by
          have : (lsK nW nH d k).1 ≤ (tA nW nH d 40 (fUntil nW nH d - fFrom nW nH d) (fFrom nW nH d)).1 := by
            show (if _ then _ else _ : Nat) ≤ _
            split <;> omega
          omega
        have eix : ∀ x i : Nat, (40 * nI x + nI i : Int32) = nI (40 * x + i) := fun x i => by rw [show (40 : Int32) = nI 40 from rfl, pk_mul, nI_add]
        refine br_f (nI_ge hw (by omega)) ⟨_, eix _ _, by omega, by omega, w, rfl, by omega, by omega, w, rfl, by omega, by omega, ?_⟩
        dsimp only
        have ecost : c1 (40 * fFrom nW nH d + w) = lN ((lsK nW nH d k).2 w).1 := by
          rw [(rF.2.2 w (by rw [eT]; exact hwA)).1, tR_A]
          rfl
        rw [ecost]
        have full : ((lsK nW nH d k).2 w).2 = ((tA nW nH d 40 (fUntil nW nH d - fFrom nW nH d) (fFrom nW nH d)).2 w).2.1 := rfl
        have lenF : ((lsK nW nH d k).2 w).2.length ≤ 61 := by
          obtain ⟨-, u1, u2, -⟩ := hok.2 w hw
          have := up_len _ 0 u1 (fun p hp => Nat.le_trans (u2 p hp) h2) (by omega)
          omega
        have r72h : ∀ (l2 w2 : Nat → Int32), (∀ w', w' ≠ w → l2 w' = upd l0 w 0 w') → l2 w = nI ((lsK nW nH d k).2 w).2.length → (∀ i, (i < 62 * w ∨ 62 * w + 62 ≤ i) → w2 i = w0 i) → (∀ j, j < ((lsK nW nH d k).2 w).2.length → w2 (62 * w + j) = nI (((lsK nW nH d k).2 w).2.getD j 0)) → lX1_cut_72 nW nH dk a Post n (nI (fFrom nW nH d)) (nI w + 1) 0 (nI (lsK nW nH d k).1) (nI (fDue nW nH d)) m1 c1 n1 g1 (vp_updL p0 w (lN ((lsK nW nH d k).2 w).1)) l2 w2 s1 y1 := fun l2 w2 k1 k2 k3 k4 => by
          rw [i1]
          refine ih (vp_updL p0 w (lN ((lsK nW nH d k).2 w).1), l2, w2) (fun w' hw' => ?_)
          by_cases e : w' = w
          · subst e
            exact ⟨pk_uLs, k2, k4⟩
          · obtain ⟨i1', i2', i3'⟩ := hI w' (by omega)
            refine ⟨(pk_uLn e).trans i1', (k1 w' e).trans ((pk_un e).trans i2'), fun j hj => ?_⟩
            have hl : ((lsK nW nH d k).2 w').2.length ≤ 61 := by
              obtain ⟨-, u1, u2, -⟩ := hok.2 w' (by omega)
              have := up_len _ 0 u1 (fun p hp => Nat.le_trans (u2 p hp) h2) (by omega)
              omega
            show w2 (62 * w' + j) = _
            rw [k3 (62 * w' + j) (by omega)]
            exact i3' j hj
        generalize lX1_cut_72 nW nH dk a Post n = r72 at r72h
        -- from place to place
        have path : ∀ (t x i : Nat) (pre : List Nat) (l2 w2 : Nat → Int32), fUntil nW nH d - x ≤ t → fFrom nW nH d ≤ x → x ≤ fUntil nW nH d → mayS nW nH d x = true → i < (tA nW nH d 40 (fUntil nW nH d - fFrom nW nH d) x).1 → pre ++ ((tA nW nH d 40 (fUntil nW nH d - fFrom nW nH d) x).2 i).2.1 = ((lsK nW nH d k).2 w).2 → (∀ w', w' ≠ w → l2 w' = upd l0 w 0 w') → l2 w = nI pre.length → (∀ i, (i < 62 * w ∨ 62 * w + 62 ≤ i) → w2 i = w0 i) → (∀ j, j < pre.length → w2 (62 * w + j) = nI (pre.getD j 0)) → ∃ n : Nat, lX1_cut_110 nW nH dk a Post r72 n (nI (fFrom nW nH d)) (nI w) (nI x) (nI i) 0 (nI (lsK nW nH d k).1) (nI (fDue nW nH d)) m1 c1 n1 g1 (vp_updL p0 w (lN ((lsK nW nH d k).2 w).1)) l2 w2 s1 y1 := by
          intro t
          induction t with
          | zero =>
            intro x i pre l2 w2 et x1 x2 x3 hi hpre k1 k2 k3 k4
            have ex : x = fUntil nW nH d := by omega
            have hwy := tA_ways hd (fUntil nW nH d - fFrom nW nH d) (Nat.le_refl _) x (by omega) x2 i hi
            have ev := hwy.2.2.1 ex
            have hlen : pre.length + 1 = ((lsK nW nH d k).2 w).2.length := by
              rw [← hpre, ev, List.length_append]
              rfl
            have rx := hr x x1 x2 x3
            have px := (rx.2.2 i (by rw [eT]; exact hi)).2
            rw [tR_A] at px
            have e1 : n1 (40 * x + i) = -1 := by
              rw [px.1]
              show (phR ((tA nW nH d 40 (fUntil nW nH d - fFrom nW nH d) x).2 i).2).1 = -1
              rw [ev]
              rfl
            refine ⟨2, ?_⟩
            show bX1_cut_110 nW nH dk a Post r72 (lX1_cut_110 nW nH dk a Post r72 1) (nI (fFrom nW nH d)) (nI w) (nI x) (nI i) 0 (nI (lsK nW nH d k).1) (nI (fDue nW nH d)) m1 c1 n1 g1 _ l2 w2 s1 y1
            unfold bX1_cut_110
            have hi40 := rx.2.1
            have hi2 : i < 40 := by rw [eT] at hi40; omega
            refine br_f (nI_m1 (by omega)) ⟨w, rfl, by omega, by omega, ?_⟩
            dsimp only
            rw [k2]
            refine ⟨62 * w + pre.length, by rw [show (62 : Int32) = nI 62 from rfl, pk_mul, nI_add], by omega, by omega, w, rfl, by omega, by omega, w, rfl, by omega, by omega, 40 * x + i, eix _ _, by omega, by omega, ?_⟩
            intro x6 e6
            refine ⟨40 * x + i, eix _ _, by omega, by omega, ?_⟩
            intro x5 e5
            rw [e1] at e6
            subst e6
            show bX1_cut_110 nW nH dk a Post r72 (lX1_cut_110 nW nH dk a Post r72 0) (nI (fFrom nW nH d)) (nI w) (-1) x5 0 (nI (lsK nW nH d k).1) (nI (fDue nW nH d)) m1 c1 n1 g1 _ _ _ s1 y1
            unfold bX1_cut_110
            refine br_t rfl (r72h _ _ (fun w' hw' => (pk_un hw').trans (k1 w' hw')) ?_ (fun z hz => ?_) (fun j hj => ?_))
            · rw [pk_us, k2, i1, hlen]
            · rw [pk_un (by omega)]
              exact k3 z hz
            · rw [← hpre, ev, getD_app]
              by_cases ej : j < pre.length
              · rw [if_pos ej, pk_un (by omega)]
                exact k4 j ej
              · have ej2 : j = pre.length := by omega
                rw [if_neg ej, ej2, pk_us, Nat.sub_self, ex]
                rfl
          | succ t iht =>
            intro x i pre l2 w2 et x1 x2 x3 hi hpre k1 k2 k3 k4
            by_cases exU : x = fUntil nW nH d
            · exact iht x i pre l2 w2 (by omega) x1 x2 x3 hi hpre k1 k2 k3 k4
            have hwy := tA_ways hd (fUntil nW nH d - fFrom nW nH d) (Nat.le_refl _) x (by omega) x2 i hi
            obtain ⟨y, i', eo, hxy, hyU, hyS, hi', ev⟩ := hwy.2.2.2 (by omega)
            have hlen : pre.length + 1 ≤ ((lsK nW nH d k).2 w).2.length := by
              rw [← hpre, ev, List.length_append]
              exact Nat.add_le_add_left (Nat.succ_le_succ (Nat.zero_le _)) _
            have rx := hr x x1 x2 x3
            have px := (rx.2.2 i (by rw [eT]; exact hi)).2
            rw [tR_A] at px
            have e1 : n1 (40 * x + i) = nI y ∧ g1 (40 * x + i) = nI i' := by
              have : phR ((tA nW nH d 40 (fUntil nW nH d - fFrom nW nH d) x).2 i).2 = (nI y, nI i') := by
                unfold phR
                rw [eo]
              exact ⟨px.1.trans (congrArg Prod.fst this), px.2.trans (congrArg Prod.snd this)⟩
            have hi40 := rx.2.1
            have hi2 : i < 40 := by rw [eT] at hi40; omega
            obtain ⟨n, hn⟩ := iht y i' (pre ++ [x]) (upd l2 w (nI (pre.length + 1))) (upd w2 (62 * w + pre.length) (nI x)) (by omega) (by omega) hyU hyS hi' (by rw [List.append_assoc, List.singleton_append, ← ev]; exact hpre) (fun w' hw' => (pk_un hw').trans (k1 w' hw')) (by rw [pk_us, List.length_append]; rfl) (fun z hz => by rw [pk_un (by omega)]; exact k3 z hz) (fun j hj => by
              rw [List.length_append] at hj
              have hj : j < pre.length + 1 := hj
              rw [getD_app]
              by_cases ej : j < pre.length
              · rw [if_pos ej, pk_un (by omega)]
                exact k4 j ej
              · have ej2 : j = pre.length := by omega
                rw [if_neg ej, ej2, pk_us, Nat.sub_self]
                rfl)
            refine ⟨n + 1, ?_⟩
            show bX1_cut_110 nW nH dk a Post r72 (lX1_cut_110 nW nH dk a Post r72 n) (nI (fFrom nW nH d)) (nI w) (nI x) (nI i) 0 (nI (lsK nW nH d k).1) (nI (fDue nW nH d)) m1 c1 n1 g1 _ l2 w2 s1 y1
            unfold bX1_cut_110
            refine br_f (nI_m1 (by omega)) ⟨w, rfl, by omega, by omega, ?_⟩
            dsimp only
            rw [k2]
            refine ⟨62 * w + pre.length, by rw [show (62 : Int32) = nI 62 from rfl, pk_mul, nI_add], by omega, by omega, w, rfl, by omega, by omega, w, rfl, by omega, by omega, 40 * x + i, eix _ _, by omega, by omega, ?_⟩
            intro x6 e6
            refine ⟨40 * x + i, eix _ _, by omega, by omega, ?_⟩
            intro x5 e5
            rw [e1.1] at e6
            rw [e1.2] at e5
            subst e6
            subst e5
            rw [k2, i1]
            exact hn
        exact path (fUntil nW nH d - fFrom nW nH d) (fFrom nW nH d) w [] (upd l0 w 0) w0 (Nat.le_refl _) (Nat.le_refl _) (by omega) hF hwA rfl (fun _ _ => rfl) pk_us (fun _ _ => rfl) (fun j hj => absurd hj (Nat.not_lt_zero j))
    refine ⟨fFrom nW nH d, rfl, by omega, by omega, ?_⟩
    dsimp only
    have eF := rF.1
    rw [eT] at eF hsz
    rw [eF, ek]
    rw [ek] at ways
    refine br_c (fun q => ?_) (fun q => ?_)
    · rw [nI_leI (by omega) (by omega)] at q
      refine ways (nI k) ?_
      congr 1
      show k = if _ then _ else k
      rw [if_neg (by omega)]
    · rw [nI_leI (by omega) (by omega)] at q
      refine ⟨fFrom nW nH d, rfl, by omega, by omega, ?_⟩
      intro v ev
      rw [eF] at ev
      refine ways v ?_
      rw [ev]
      congr 1
      show _ = if _ then _ else k
      rw [if_pos (by omega)]
