/-! ===== PRINTED BY wip/gen/gen.py: the machine does what the predicates say ===== -/
theorem in_X0_shelveUntil : ∀ w ∈ wsX00, w ∈ wsX0_shelveUntil := by decide +kernel
set_option maxHeartbeats 4000000 in
set_option maxRecDepth 100000 in
theorem mX0_shelveUntil (l : Launch) {dC : Nat → ClassId} {dI : Nat → Nat → Nat} {ad : Nat → Nat} {cA : Nat → ClassId} {nW : Nat} {nH : Nat} {ff : Int32} {fd : Int32} {cols : Nat → Int64} {rows : Nat → Int64} {ends : Nat → Int64} {ecost : Nat → Int32} {ecnt : Nat → Int32} {tails : Nat → Int32} {longer : Nat → Int32} {sz : Nat} {a1 : Int32} {Post : (Nat → Int64) → (Nat → Int32) → (Nat → Int32) → Prop} (h : wX0_shelveUntil nW ends ecost ecnt a1 Post) : Met l yX0_shelveUntil wsX0_shelveUntil ({ frames := 1, cells := 0, slots := 0, locals := 20 } : Room) (zPw (dC, dI) vwCl (tX0 cA) (wX0 ad cA nW nH ff fd cols rows ends ecost ecnt tails longer) sz [.ref (ad 0), .int a1]) (va_Qv (S := (Nat → Int64) × (Nat → Int32) × (Nat → Int32)) (fun (u : (Nat → Int64) × (Nat → Int32) × (Nat → Int32)) => Post u.1 u.2.1 u.2.2) (zB (dC, dI) vwCl (tX0 cA) (wX0 ad cA nW nH ff fd cols rows ends ecost ecnt tails longer) sz (fun u : (Nat → Int64) × (Nat → Int32) × (Nat → Int32) => wX0 ad cA nW nH ff fd cols rows u.1 u.2.1 u.2.2 tails longer)) (va_A (wX0 ad cA nW nH ff fd cols rows ends ecost ecnt tails longer) sz)) 0 0 (va_A (wX0 ad cA nW nH ff fd cols rows ends ecost ecnt tails longer) sz) := by
  refine Met.ofW (cc := cX0_shelveUntil) (maxL := 2) (ret := none) (by decide) rfl ?_
  intro p e s m args below meth c s₁ B hml hv
  obtain ⟨rfl, hsz, hP, hK, hD0⟩ := hv
  have hC : zC p s m [.ref (ad 0), .int a1].toArray meth c cX0_shelveUntil wsX0_shelveUntil none 2 RX0 := ⟨B.exec, B.bytes, B.returns, hml, findClass_of_methodNamed B.named, atoms_spec (ws := wsX0_shelveUntil) B.pre, B.notSynchronized⟩
  have hC0 := hC
  obtain ⟨hx, hb, hr, hml, hown, hts, hlocks⟩ := hC
  subst hsz
  have hD := hD0.self (sz := s.heap.size)
  have hA : ∀ q : Nat, s.heap.size ≤ q → va_A (wX0 ad cA nW nH ff fd cols rows ends ecost ecnt tails longer) s.heap.size q := fun q h => Or.inr h
  have hS : va_S (va_A (wX0 ad cA nW nH ff fd cols rows ends ecost ecnt tails longer) s.heap.size) s.heap s.heap [] := va_S.rf
  generalize hQe : (va_Qv (S := (Nat → Int64) × (Nat → Int32) × (Nat → Int32)) (fun (u : (Nat → Int64) × (Nat → Int32) × (Nat → Int32)) => Post u.1 u.2.1 u.2.2) (zB (dC, dI) vwCl (tX0 cA) (wX0 ad cA nW nH ff fd cols rows ends ecost ecnt tails longer) s.heap.size (fun u : (Nat → Int64) × (Nat → Int32) × (Nat → Int32) => wX0 ad cA nW nH ff fd cols rows u.1 u.2.1 u.2.2 tails longer)) (va_A (wX0 ad cA nW nH ff fd cols rows ends ecost ecnt tails longer) s.heap.size)) = Qc
  generalize hAe : va_A (wX0 ad cA nW nH ff fd cols rows ends ecost ecnt tails longer) s.heap.size = A at hD hA hS hQe ⊢
  have hQ : ∀ (ends : Nat → Int64) (ecost : Nat → Int32) (ecnt : Nat → Int32) (H : Heap) (locs : List Loc), va_P (dC, dI) vwCl (wX0 ad cA nW nH ff fd cols rows ends ecost ecnt tails longer) H → va_D A (wX0 ad cA nW nH ff fd cols rows ends ecost ecnt tails longer) → va_S A s.heap H locs → Post ends ecost ecnt → ∀ t : State, t.heap = H → s.WarmedH t.vm → Qc [.ref (ad 0), .int a1].toArray s (.returned none) t := by
    intro ends ecost ecnt H locs hP hD hS h t ht hW
    rw [← hQe]
    exact ⟨⟨(ends, ecost, ecnt), rfl, h, by rw [ht]; exact hP, va_K.moved hW.alike hK, hAe ▸ hD⟩, hS.F ht⟩
  clear hQe hAe
  have hl := lv_entry ([.ref (ad 0), .int a1]) (n := 2) (Nat.le_of_ble_eq_true rfl)
  rw [lg_entry_eq]
  generalize (lg_sl ([.ref (ad 0), .int a1]) ++ List.replicate (2 - (lg_sl ([.ref (ad 0), .int a1])).length) Slot.unset).toArray = ls at hl ⊢
  have hl : lv_has ls 2 [(0, .ref (ad 0)), (1, .int a1)] := hl
  show W p l e ({ frames := 1, cells := 0, slots := 0, locals := 20 } : Room) s m _ below meth c s.heap [] 0 0 (MQ below Qc _ s 0 0 A) (F0 m 0 ls [])
  unfold wX0_shelveUntil at h
  refine lv_aload_n hx hb dX0_shelveUntil_0 rfl (lv_at hl 0 rfl) ?_
  refine va_get (D := (dC, dI)) (ci := 1) (v := .ref (ad 3)) (C := RX0) (T := TX0) (N := 11) hx hb hts in_X0_shelveUntil hown hK hP 0 rfl rfl 4 (by decide) (hts (.fieldLink RX0 32 "SignCutter" "ends" "[J") (by decide +kernel)) (fun _ h9 => h9) rfl dX0_shelveUntil_1 ?_
  refine lv_iload_n hx hb dX0_shelveUntil_4 rfl (lv_at hl 1 rfl) ?_
  refine z_cSi (As := [.int a1]) (rest := [.ref (ad 3)]) ⟨hx, hb, hml, hown, hts⟩ (mX0_shelf l h) (va_cwS 1 hts gX0_shelveUntil_X0_shelf rfl rfl rfl (by decide +kernel) ⟨Nat.le_of_ble_eq_true rfl, Nat.le_of_ble_eq_true rfl⟩) rfl hl.1 rfl (Nat.le_of_ble_eq_true rfl) dX0_shelveUntil_5 ⟨Nat.le_of_ble_eq_true rfl, Nat.le_of_ble_eq_true rfl⟩ (fun r_1 h => ?_)
  refine lv_lconst (v := 1) hx hb dX0_shelveUntil_8 (by decide) ?_
  refine lv_iload_n hx hb dX0_shelveUntil_9 rfl (lv_at hl 1 rfl) ?_
  refine lv_lshl (v := (zShl 1 a1)) hx hb dX0_shelveUntil_10 rfl ?_
  refine z_last hx hb hK hP hD hS 3 2 rfl rfl h dX0_shelveUntil_11 (fun j_2 H locs h hP hD hS => ?_)
  have hP : va_P (dC, dI) vwCl (wX0 ad cA nW nH ff fd cols rows (vp_updL ends j_2 (zShl 1 a1)) ecost ecnt tails longer) H := hP
  have hD : va_D A (wX0 ad cA nW nH ff fd cols rows (vp_updL ends j_2 (zShl 1 a1)) ecost ecnt tails longer) := hD
  refine lv_aload_n hx hb dX0_shelveUntil_12 rfl (lv_at hl 0 rfl) ?_
  refine va_get (D := (dC, dI)) (ci := 1) (v := .ref (ad 4)) (C := RX0) (T := TX0) (N := 11) hx hb hts in_X0_shelveUntil hown hK hP 0 rfl rfl 5 (by decide) (hts (.fieldLink RX0 35 "SignCutter" "endCosts" "[I") (by decide +kernel)) (fun _ h9 => h9) rfl dX0_shelveUntil_13 ?_
  refine lv_iload_n hx hb dX0_shelveUntil_16 rfl (lv_at hl 1 rfl) ?_
  refine z_cSi (As := [.int a1]) (rest := [.ref (ad 4)]) ⟨hx, hb, hml, hown, hts⟩ (mX0_shelf l h) (va_cwS 1 hts gX0_shelveUntil_X0_shelf rfl rfl rfl (by decide +kernel) ⟨Nat.le_of_ble_eq_true rfl, Nat.le_of_ble_eq_true rfl⟩) rfl hl.1 rfl (Nat.le_of_ble_eq_true rfl) dX0_shelveUntil_17 ⟨Nat.le_of_ble_eq_true rfl, Nat.le_of_ble_eq_true rfl⟩ (fun r_3 h => ?_)
  refine lv_iconst (v := 0) hx hb dX0_shelveUntil_20 (by decide) ?_
  refine z_iast hx hb hK hP hD hS 4 3 rfl rfl h dX0_shelveUntil_21 (fun j_4 H locs h hP hD hS => ?_)
  have hP : va_P (dC, dI) vwCl (wX0 ad cA nW nH ff fd cols rows (vp_updL ends j_2 (zShl 1 a1)) (upd ecost j_4 0) ecnt tails longer) H := hP
  have hD : va_D A (wX0 ad cA nW nH ff fd cols rows (vp_updL ends j_2 (zShl 1 a1)) (upd ecost j_4 0) ecnt tails longer) := hD
  refine lv_aload_n hx hb dX0_shelveUntil_22 rfl (lv_at hl 0 rfl) ?_
  refine va_get (D := (dC, dI)) (ci := 1) (v := .ref (ad 5)) (C := RX0) (T := TX0) (N := 11) hx hb hts in_X0_shelveUntil hown hK hP 0 rfl rfl 6 (by decide) (hts (.fieldLink RX0 39 "SignCutter" "endCounts" "[I") (by decide +kernel)) (fun _ h9 => h9) rfl dX0_shelveUntil_23 ?_
  refine lv_iload_n hx hb dX0_shelveUntil_26 rfl (lv_at hl 1 rfl) ?_
  refine lv_iconst (v := 1) hx hb dX0_shelveUntil_27 (by decide) ?_
  refine z_iast hx hb hK hP hD hS 5 4 rfl rfl h dX0_shelveUntil_28 (fun j_5 H locs h hP hD hS => ?_)
  have hP : va_P (dC, dI) vwCl (wX0 ad cA nW nH ff fd cols rows (vp_updL ends j_2 (zShl 1 a1)) (upd ecost j_4 0) (upd ecnt j_5 1) tails longer) H := hP
  have hD : va_D A (wX0 ad cA nW nH ff fd cols rows (vp_updL ends j_2 (zShl 1 a1)) (upd ecost j_4 0) (upd ecnt j_5 1) tails longer) := hD
  exact W.vret hx hb hr (hQ _ _ _ _ _ hP hD hS h) hS.2.2 dX0_shelveUntil_29
theorem in_X0_shelve : ∀ w ∈ wsX00, w ∈ wsX0_shelve := by decide +kernel
set_option maxHeartbeats 4000000 in
set_option maxRecDepth 100000 in
theorem tX0_shelve_121 {p : Program} {l : Launch} {e : Env} {s : State} {m : MethodId} {args : Array Value} {below : List Frame} {meth : Method} {c : Code} {dC : Nat → ClassId} {dI : Nat → Nat → Nat} {ad : Nat → Nat} {cA : Nat → ClassId} {nW : Nat} {nH : Nat} {ff : Int32} {fd : Int32} {cols : Nat → Int64} {rows : Nat → Int64} {tails : Nat → Int32} {longer : Nat → Int32} {a1 : Int32} {a2 : Int32} {a3 : Int64} {a5 : Int32} {Post : Int32 → (Nat → Int64) → (Nat → Int32) → (Nat → Int32) → Prop} (hC : zC p s m args meth c cX0_shelve wsX0_shelve (some .boolean) 9 RX0) (hK : va_K (dC, dI) vwCl (tX0 cA) s) {A : Nat → Prop} (hA : ∀ q, s.heap.size ≤ q → A q) {Qc : Array Value → State → Outcome → State → Prop} (hQ : ∀ (r : Int32) (ends : Nat → Int64) (ecost : Nat → Int32) (ecnt : Nat → Int32) (H : Heap) (locs : List Loc), va_P (dC, dI) vwCl (wX0 ad cA nW nH ff fd cols rows ends ecost ecnt tails longer) H → va_D A (wX0 ad cA nW nH ff fd cols rows ends ecost ecnt tails longer) → va_S A s.heap H locs → Post r ends ecost ecnt → ∀ t : State, t.heap = H → s.WarmedH t.vm → Qc args s (.returned (some (.int r))) t) : ∀ (x6 : Int32) (x7 : Int32) (x8 : Int32) (ends : Nat → Int64) (ecost : Nat → Int32) (ecnt : Nat → Int32) (H : Heap) (locs : List Loc), va_P (dC, dI) vwCl (wX0 ad cA nW nH ff fd cols rows ends ecost ecnt tails longer) H → va_D A (wX0 ad cA nW nH ff fd cols rows ends ecost ecnt tails longer) → va_S A s.heap H locs → ∀ (ls : Array Slot), lv_has ls 9 [(0, .ref (ad 0)), (1, .int a1), (2, .int a2), (3, .long a3), (5, .int a5), (6, .int x6), (7, .int x7), (8, .int x8)] → jX0_shelve_121 nW a1 a2 a3 a5 Post x6 x7 x8 ends ecost ecnt → W p l e ({ frames := 1, cells := 0, slots := 0, locals := 24 } : Room) s m args below meth c H locs 0 0 (MQ below Qc args s 0 0 A) (F0 m 121 ls []) := by
  have hC0 := hC
  obtain ⟨hx, hb, hr, hml, hown, hts, hlocks⟩ := hC
  intro x6 x7 x8 ends ecost ecnt H locs hP hD hS ls hl h
  unfold jX0_shelve_121 at h
  refine lv_aload_n hx hb dX0_shelve_121 rfl (lv_at hl 0 rfl) ?_
  refine va_get (D := (dC, dI)) (ci := 1) (v := .ref (ad 4)) (C := RX0) (T := TX0) (N := 11) hx hb hts in_X0_shelve hown hK hP 0 rfl rfl 5 (by decide) (hts (.fieldLink RX0 35 "SignCutter" "endCosts" "[I") (by decide +kernel)) (fun _ h9 => h9) rfl dX0_shelve_122 ?_
  refine lv_iload hx hb dX0_shelve_125 (lv_at hl 5 rfl) ?_
  refine lv_iload hx hb dX0_shelve_127 (lv_at hl 7 rfl) ?_
  refine lv_iadd hx hb dX0_shelve_129 ?_
  refine lv_iload_n hx hb dX0_shelve_130 rfl (lv_at hl 2 rfl) ?_
  refine z_iast hx hb hK hP hD hS 4 3 rfl rfl h dX0_shelve_131 (fun j_5 H locs h hP hD hS => ?_)
  have hP : va_P (dC, dI) vwCl (wX0 ad cA nW nH ff fd cols rows ends (upd ecost j_5 a2) ecnt tails longer) H := hP
  have hD : va_D A (wX0 ad cA nW nH ff fd cols rows ends (upd ecost j_5 a2) ecnt tails longer) := hD
  refine lv_aload_n hx hb dX0_shelve_132 rfl (lv_at hl 0 rfl) ?_
  refine va_get (D := (dC, dI)) (ci := 1) (v := .ref (ad 3)) (C := RX0) (T := TX0) (N := 11) hx hb hts in_X0_shelve hown hK hP 0 rfl rfl 4 (by decide) (hts (.fieldLink RX0 32 "SignCutter" "ends" "[J") (by decide +kernel)) (fun _ h9 => h9) rfl dX0_shelve_133 ?_
  refine lv_iload hx hb dX0_shelve_136 (lv_at hl 5 rfl) ?_
  refine lv_iload hx hb dX0_shelve_138 (lv_at hl 7 rfl) ?_
  refine lv_iadd hx hb dX0_shelve_140 ?_
  refine lv_lload_n hx hb dX0_shelve_141 rfl (lv_at hl 3 rfl) ?_
  refine z_last hx hb hK hP hD hS 3 2 rfl rfl h dX0_shelve_142 (fun j_6 H locs h hP hD hS => ?_)
  have hP : va_P (dC, dI) vwCl (wX0 ad cA nW nH ff fd cols rows (vp_updL ends j_6 a3) (upd ecost j_5 a2) ecnt tails longer) H := hP
  have hD : va_D A (wX0 ad cA nW nH ff fd cols rows (vp_updL ends j_6 a3) (upd ecost j_5 a2) ecnt tails longer) := hD
  refine lv_aload_n hx hb dX0_shelve_143 rfl (lv_at hl 0 rfl) ?_
  refine va_get (D := (dC, dI)) (ci := 1) (v := .ref (ad 5)) (C := RX0) (T := TX0) (N := 11) hx hb hts in_X0_shelve hown hK hP 0 rfl rfl 6 (by decide) (hts (.fieldLink RX0 39 "SignCutter" "endCounts" "[I") (by decide +kernel)) (fun _ h9 => h9) rfl dX0_shelve_144 ?_
  refine lv_iload_n hx hb dX0_shelve_147 rfl (lv_at hl 1 rfl) ?_
  refine lv_iload hx hb dX0_shelve_148 (lv_at hl 6 rfl) ?_
  refine lv_iconst (v := 1) hx hb dX0_shelve_150 (by decide) ?_
  refine lv_iadd hx hb dX0_shelve_151 ?_
  refine lv_iload hx hb dX0_shelve_152 (lv_at hl 4 rfl) ?_
  refine va_mmin hx hb (hml.trans hl.1.symm) hown (hts (.methodLink RX0 9 Lib.Math.min.name) (by decide +kernel)) (hts (.static Lib.Math.min.name) (by decide +kernel)) (hts (.initialized "java/lang/Math") (by decide +kernel)) (hts (.code Lib.Math.min.name Lib.Math.min.code 2 (some .int)) (by decide +kernel)) (Nat.le_of_ble_eq_true rfl) (Nat.le_of_ble_eq_true rfl) (Nat.le_of_ble_eq_true rfl) (Nat.le_of_ble_eq_true rfl) dX0_shelve_154 ?_
  refine W.eq (g2 := F0 m 157 ls [.int (zMin (x7 + 1) a5), .int a1, .ref (ad 5)]) rfl ?_
  refine z_iast hx hb hK hP hD hS 5 4 rfl rfl h dX0_shelve_157 (fun j_7 H locs h hP hD hS => ?_)
  have hP : va_P (dC, dI) vwCl (wX0 ad cA nW nH ff fd cols rows (vp_updL ends j_6 a3) (upd ecost j_5 a2) (upd ecnt j_7 (zMin (x7 + 1) a5)) tails longer) H := hP
  have hD : va_D A (wX0 ad cA nW nH ff fd cols rows (vp_updL ends j_6 a3) (upd ecost j_5 a2) (upd ecnt j_7 (zMin (x7 + 1) a5)) tails longer) := hD
  refine lv_iconst (v := 1) hx hb dX0_shelve_158 (by decide) ?_
  exact W.zret (v := 1) hx hb hr rfl (hQ _ _ _ _ _ _ hP hD hS h) hS.2.2 dX0_shelve_159
set_option maxHeartbeats 4000000 in
set_option maxRecDepth 100000 in
theorem tX0_shelve_50 {p : Program} {l : Launch} {e : Env} {s : State} {m : MethodId} {args : Array Value} {below : List Frame} {meth : Method} {c : Code} {dC : Nat → ClassId} {dI : Nat → Nat → Nat} {ad : Nat → Nat} {cA : Nat → ClassId} {nW : Nat} {nH : Nat} {ff : Int32} {fd : Int32} {cols : Nat → Int64} {rows : Nat → Int64} {tails : Nat → Int32} {longer : Nat → Int32} {a1 : Int32} {a2 : Int32} {a3 : Int64} {a5 : Int32} {Post : Int32 → (Nat → Int64) → (Nat → Int32) → (Nat → Int32) → Prop} (hC : zC p s m args meth c cX0_shelve wsX0_shelve (some .boolean) 9 RX0) (hK : va_K (dC, dI) vwCl (tX0 cA) s) {A : Nat → Prop} (hA : ∀ q, s.heap.size ≤ q → A q) {Qc : Array Value → State → Outcome → State → Prop} (hQ : ∀ (r : Int32) (ends : Nat → Int64) (ecost : Nat → Int32) (ecnt : Nat → Int32) (H : Heap) (locs : List Loc), va_P (dC, dI) vwCl (wX0 ad cA nW nH ff fd cols rows ends ecost ecnt tails longer) H → va_D A (wX0 ad cA nW nH ff fd cols rows ends ecost ecnt tails longer) → va_S A s.heap H locs → Post r ends ecost ecnt → ∀ t : State, t.heap = H → s.WarmedH t.vm → Qc args s (.returned (some (.int r))) t) : ∀ (n : Nat), ∀ (x6 : Int32) (x7 : Int32) (x8 : Int32) (ends : Nat → Int64) (ecost : Nat → Int32) (ecnt : Nat → Int32) (H : Heap) (locs : List Loc), va_P (dC, dI) vwCl (wX0 ad cA nW nH ff fd cols rows ends ecost ecnt tails longer) H → va_D A (wX0 ad cA nW nH ff fd cols rows ends ecost ecnt tails longer) → va_S A s.heap H locs → ∀ (ls : Array Slot), lv_has ls 9 [(0, .ref (ad 0)), (1, .int a1), (2, .int a2), (3, .long a3), (5, .int a5), (6, .int x6), (7, .int x7), (8, .int x8)] → lX0_shelve_50 nW a1 a2 a3 a5 Post n x6 x7 x8 ends ecost ecnt → W p l e ({ frames := 1, cells := 0, slots := 0, locals := 24 } : Room) s m args below meth c H locs 0 0 (MQ below Qc args s 0 0 A) (F0 m 50 ls []) := by
  have hC0 := hC
  obtain ⟨hx, hb, hr, hml, hown, hts, hlocks⟩ := hC
  intro n
  induction n with
  | zero =>
    intro x6 x7 x8 ends ecost ecnt H locs hP hD hS ls hl h
    exact h.elim
  | succ n hr50 =>
    intro x6 x7 x8 ends ecost ecnt H locs hP hD hS ls hl h
    have h : bX0_shelve_50 nW a1 a2 a3 a5 Post (lX0_shelve_50 nW a1 a2 a3 a5 Post n) x6 x7 x8 ends ecost ecnt := h
    unfold bX0_shelve_50 at h
    refine lv_iload hx hb dX0_shelve_50 (lv_at hl 7 rfl) ?_
    refine lv_if_le (tgt := 121) hx hb dX0_shelve_52 (by decide) (fun c => ?_) (fun c => ?_)
    · have h := h.1 c
      exact tX0_shelve_121 hC0 hK hA hQ _ _ _ _ _ _ _ _ hP hD hS ls (lv_sub hl [0, 1, 2, 3, 4, 5, 6, 7] rfl) h
    · have h := h.2 c
      refine lv_aload_n hx hb dX0_shelve_55 rfl (lv_at hl 0 rfl) ?_
      refine va_get (D := (dC, dI)) (ci := 1) (v := .ref (ad 4)) (C := RX0) (T := TX0) (N := 11) hx hb hts in_X0_shelve hown hK hP 0 rfl rfl 5 (by decide) (hts (.fieldLink RX0 35 "SignCutter" "endCosts" "[I") (by decide +kernel)) (fun _ h9 => h9) rfl dX0_shelve_56 ?_
      refine lv_iload hx hb dX0_shelve_59 (lv_at hl 5 rfl) ?_
      refine lv_iload hx hb dX0_shelve_61 (lv_at hl 7 rfl) ?_
      refine lv_iadd hx hb dX0_shelve_63 ?_
      refine lv_iconst (v := 1) hx hb dX0_shelve_64 (by decide) ?_
      refine lv_isub hx hb dX0_shelve_65 ?_
      refine z_iald hx hb hK hP 4 3 rfl rfl h dX0_shelve_66 (fun j_8 h => ?_)
      refine lv_iload_n hx hb dX0_shelve_67 rfl (lv_at hl 2 rfl) ?_
      refine lv_icmp_le (tgt := 121) hx hb dX0_shelve_68 (by decide) (fun c => ?_) (fun c => ?_)
      · have h := h.1 c
        exact tX0_shelve_121 hC0 hK hA hQ _ _ _ _ _ _ _ _ hP hD hS ls (lv_sub hl [0, 1, 2, 3, 4, 5, 6, 7] rfl) h
      · have h := h.2 c
        refine lv_aload_n hx hb dX0_shelve_71 rfl (lv_at hl 0 rfl) ?_
        refine va_get (D := (dC, dI)) (ci := 1) (v := .ref (ad 4)) (C := RX0) (T := TX0) (N := 11) hx hb hts in_X0_shelve hown hK hP 0 rfl rfl 5 (by decide) (hts (.fieldLink RX0 35 "SignCutter" "endCosts" "[I") (by decide +kernel)) (fun _ h9 => h9) rfl dX0_shelve_72 ?_
        refine lv_iload hx hb dX0_shelve_75 (lv_at hl 5 rfl) ?_
        refine lv_iload hx hb dX0_shelve_77 (lv_at hl 7 rfl) ?_
        refine lv_iadd hx hb dX0_shelve_79 ?_
        refine lv_aload_n hx hb dX0_shelve_80 rfl (lv_at hl 0 rfl) ?_
        refine va_get (D := (dC, dI)) (ci := 1) (v := .ref (ad 4)) (C := RX0) (T := TX0) (N := 11) hx hb hts in_X0_shelve hown hK hP 0 rfl rfl 5 (by decide) (hts (.fieldLink RX0 35 "SignCutter" "endCosts" "[I") (by decide +kernel)) (fun _ h9 => h9) rfl dX0_shelve_81 ?_
        refine lv_iload hx hb dX0_shelve_84 (lv_at hl 5 rfl) ?_
        refine lv_iload hx hb dX0_shelve_86 (lv_at hl 7 rfl) ?_
        refine lv_iadd hx hb dX0_shelve_88 ?_
        refine lv_iconst (v := 1) hx hb dX0_shelve_89 (by decide) ?_
        refine lv_isub hx hb dX0_shelve_90 ?_
        refine z_iald hx hb hK hP 4 3 rfl rfl h dX0_shelve_91 (fun j_9 h => ?_)
        refine z_iast hx hb hK hP hD hS 4 3 rfl rfl h dX0_shelve_92 (fun j_10 H locs h hP hD hS => ?_)
        have hP : va_P (dC, dI) vwCl (wX0 ad cA nW nH ff fd cols rows ends (upd ecost j_10 (ecost j_9)) ecnt tails longer) H := hP
        have hD : va_D A (wX0 ad cA nW nH ff fd cols rows ends (upd ecost j_10 (ecost j_9)) ecnt tails longer) := hD
        refine lv_aload_n hx hb dX0_shelve_93 rfl (lv_at hl 0 rfl) ?_
        refine va_get (D := (dC, dI)) (ci := 1) (v := .ref (ad 3)) (C := RX0) (T := TX0) (N := 11) hx hb hts in_X0_shelve hown hK hP 0 rfl rfl 4 (by decide) (hts (.fieldLink RX0 32 "SignCutter" "ends" "[J") (by decide +kernel)) (fun _ h9 => h9) rfl dX0_shelve_94 ?_
        refine lv_iload hx hb dX0_shelve_97 (lv_at hl 5 rfl) ?_
        refine lv_iload hx hb dX0_shelve_99 (lv_at hl 7 rfl) ?_
        refine lv_iadd hx hb dX0_shelve_101 ?_
        refine lv_aload_n hx hb dX0_shelve_102 rfl (lv_at hl 0 rfl) ?_
        refine va_get (D := (dC, dI)) (ci := 1) (v := .ref (ad 3)) (C := RX0) (T := TX0) (N := 11) hx hb hts in_X0_shelve hown hK hP 0 rfl rfl 4 (by decide) (hts (.fieldLink RX0 32 "SignCutter" "ends" "[J") (by decide +kernel)) (fun _ h9 => h9) rfl dX0_shelve_103 ?_
        refine lv_iload hx hb dX0_shelve_106 (lv_at hl 5 rfl) ?_
        refine lv_iload hx hb dX0_shelve_108 (lv_at hl 7 rfl) ?_
        refine lv_iadd hx hb dX0_shelve_110 ?_
        refine lv_iconst (v := 1) hx hb dX0_shelve_111 (by decide) ?_
        refine lv_isub hx hb dX0_shelve_112 ?_
        refine z_lald hx hb hK hP 3 2 rfl rfl h dX0_shelve_113 (fun j_11 h => ?_)
        refine z_last hx hb hK hP hD hS 3 2 rfl rfl h dX0_shelve_114 (fun j_12 H locs h hP hD hS => ?_)
        have hP : va_P (dC, dI) vwCl (wX0 ad cA nW nH ff fd cols rows (vp_updL ends j_12 (ends j_11)) (upd ecost j_10 (ecost j_9)) ecnt tails longer) H := hP
        have hD : va_D A (wX0 ad cA nW nH ff fd cols rows (vp_updL ends j_12 (ends j_11)) (upd ecost j_10 (ecost j_9)) ecnt tails longer) := hD
        refine lv_iinc (v := (x8 + (-1))) (lv' := [(8, .int (x8 + (-1))), (0, .ref (ad 0)), (1, .int a1), (2, .int a2), (3, .long a3), (5, .int a5), (6, .int x6), (7, .int x7)]) hx hb dX0_shelve_115 hl (k := 7) rfl rfl (by decide) rfl (fun ls hl => ?_)
        refine lv_goto (tgt := 50) hx hb dX0_shelve_118 (by decide) ?_
        exact hr50 _ _ _ _ _ _ _ _ hP hD hS ls (lv_sub hl [1, 2, 3, 4, 5, 6, 7, 0] rfl) h
set_option maxHeartbeats 4000000 in
set_option maxRecDepth 100000 in
theorem mX0_shelve (l : Launch) {dC : Nat → ClassId} {dI : Nat → Nat → Nat} {ad : Nat → Nat} {cA : Nat → ClassId} {nW : Nat} {nH : Nat} {ff : Int32} {fd : Int32} {cols : Nat → Int64} {rows : Nat → Int64} {ends : Nat → Int64} {ecost : Nat → Int32} {ecnt : Nat → Int32} {tails : Nat → Int32} {longer : Nat → Int32} {sz : Nat} {a1 : Int32} {a2 : Int32} {a3 : Int64} {a5 : Int32} {Post : Int32 → (Nat → Int64) → (Nat → Int32) → (Nat → Int32) → Prop} (h : wX0_shelve nW ends ecost ecnt a1 a2 a3 a5 Post) : Met l yX0_shelve wsX0_shelve ({ frames := 1, cells := 0, slots := 0, locals := 24 } : Room) (zPw (dC, dI) vwCl (tX0 cA) (wX0 ad cA nW nH ff fd cols rows ends ecost ecnt tails longer) sz [.ref (ad 0), .int a1, .int a2, .long a3, .int a5]) (va_Qi (S := (Nat → Int64) × (Nat → Int32) × (Nat → Int32)) (fun (r : Int32) (u : (Nat → Int64) × (Nat → Int32) × (Nat → Int32)) => Post r u.1 u.2.1 u.2.2) (zB (dC, dI) vwCl (tX0 cA) (wX0 ad cA nW nH ff fd cols rows ends ecost ecnt tails longer) sz (fun u : (Nat → Int64) × (Nat → Int32) × (Nat → Int32) => wX0 ad cA nW nH ff fd cols rows u.1 u.2.1 u.2.2 tails longer)) (va_A (wX0 ad cA nW nH ff fd cols rows ends ecost ecnt tails longer) sz)) 0 0 (va_A (wX0 ad cA nW nH ff fd cols rows ends ecost ecnt tails longer) sz) := by
  refine Met.ofW (cc := cX0_shelve) (maxL := 9) (ret := (some .boolean)) (by decide) rfl ?_
  intro p e s m args below meth c s₁ B hml hv
  obtain ⟨rfl, hsz, hP, hK, hD0⟩ := hv
  have hC : zC p s m [.ref (ad 0), .int a1, .int a2, .long a3, .int a5].toArray meth c cX0_shelve wsX0_shelve (some .boolean) 9 RX0 := ⟨B.exec, B.bytes, B.returns, hml, findClass_of_methodNamed B.named, atoms_spec (ws := wsX0_shelve) B.pre, B.notSynchronized⟩
  have hC0 := hC
  obtain ⟨hx, hb, hr, hml, hown, hts, hlocks⟩ := hC
  subst hsz
  have hD := hD0.self (sz := s.heap.size)
  have hA : ∀ q : Nat, s.heap.size ≤ q → va_A (wX0 ad cA nW nH ff fd cols rows ends ecost ecnt tails longer) s.heap.size q := fun q h => Or.inr h
  have hS : va_S (va_A (wX0 ad cA nW nH ff fd cols rows ends ecost ecnt tails longer) s.heap.size) s.heap s.heap [] := va_S.rf
  generalize hQe : (va_Qi (S := (Nat → Int64) × (Nat → Int32) × (Nat → Int32)) (fun (r : Int32) (u : (Nat → Int64) × (Nat → Int32) × (Nat → Int32)) => Post r u.1 u.2.1 u.2.2) (zB (dC, dI) vwCl (tX0 cA) (wX0 ad cA nW nH ff fd cols rows ends ecost ecnt tails longer) s.heap.size (fun u : (Nat → Int64) × (Nat → Int32) × (Nat → Int32) => wX0 ad cA nW nH ff fd cols rows u.1 u.2.1 u.2.2 tails longer)) (va_A (wX0 ad cA nW nH ff fd cols rows ends ecost ecnt tails longer) s.heap.size)) = Qc
  generalize hAe : va_A (wX0 ad cA nW nH ff fd cols rows ends ecost ecnt tails longer) s.heap.size = A at hD hA hS hQe ⊢
  have hQ : ∀ (r : Int32) (ends : Nat → Int64) (ecost : Nat → Int32) (ecnt : Nat → Int32) (H : Heap) (locs : List Loc), va_P (dC, dI) vwCl (wX0 ad cA nW nH ff fd cols rows ends ecost ecnt tails longer) H → va_D A (wX0 ad cA nW nH ff fd cols rows ends ecost ecnt tails longer) → va_S A s.heap H locs → Post r ends ecost ecnt → ∀ t : State, t.heap = H → s.WarmedH t.vm → Qc [.ref (ad 0), .int a1, .int a2, .long a3, .int a5].toArray s (.returned (some (.int r))) t := by
    intro r ends ecost ecnt H locs hP hD hS h t ht hW
    rw [← hQe]
    exact ⟨⟨r, (ends, ecost, ecnt), rfl, h, by rw [ht]; exact hP, va_K.moved hW.alike hK, hAe ▸ hD⟩, hS.F ht⟩
  clear hQe hAe
  have hl := lv_entry ([.ref (ad 0), .int a1, .int a2, .long a3, .int a5]) (n := 9) (Nat.le_of_ble_eq_true rfl)
  rw [lg_entry_eq]
  generalize (lg_sl ([.ref (ad 0), .int a1, .int a2, .long a3, .int a5]) ++ List.replicate (9 - (lg_sl ([.ref (ad 0), .int a1, .int a2, .long a3, .int a5])).length) Slot.unset).toArray = ls at hl ⊢
  have hl : lv_has ls 9 [(0, .ref (ad 0)), (1, .int a1), (2, .int a2), (3, .long a3), (5, .int a5)] := hl
  show W p l e ({ frames := 1, cells := 0, slots := 0, locals := 24 } : Room) s m _ below meth c s.heap [] 0 0 (MQ below Qc _ s 0 0 A) (F0 m 0 ls [])
  unfold wX0_shelve at h
  refine lv_iload_n hx hb dX0_shelve_0 rfl (lv_at hl 1 rfl) ?_
  refine z_cSi (As := [.int a1]) (rest := []) ⟨hx, hb, hml, hown, hts⟩ (mX0_shelf l h) (va_cwS 1 hts gX0_shelve_X0_shelf rfl rfl rfl (by decide +kernel) ⟨Nat.le_of_ble_eq_true rfl, Nat.le_of_ble_eq_true rfl⟩) rfl hl.1 rfl (Nat.le_of_ble_eq_true rfl) dX0_shelve_1 ⟨Nat.le_of_ble_eq_true rfl, Nat.le_of_ble_eq_true rfl⟩ (fun r_1 h => ?_)
  refine lv_istore (lv' := [(6, .int r_1), (0, .ref (ad 0)), (1, .int a1), (2, .int a2), (3, .long a3), (5, .int a5)]) hx hb dX0_shelve_4 hl (by decide) rfl (fun ls hl => ?_)
  refine lv_aload_n hx hb dX0_shelve_6 rfl (lv_at hl 1 rfl) ?_
  refine va_get (D := (dC, dI)) (ci := 1) (v := .ref (ad 5)) (C := RX0) (T := TX0) (N := 11) hx hb hts in_X0_shelve hown hK hP 0 rfl rfl 6 (by decide) (hts (.fieldLink RX0 39 "SignCutter" "endCounts" "[I") (by decide +kernel)) (fun _ h9 => h9) rfl dX0_shelve_7 ?_
  refine lv_iload_n hx hb dX0_shelve_10 rfl (lv_at hl 2 rfl) ?_
  refine z_iald hx hb hK hP 5 4 rfl rfl h dX0_shelve_11 (fun j_2 h => ?_)
  refine lv_topi (fun x7_3 ex7_3 => ?_)
  have h := h x7_3 ex7_3
  refine lv_istore (lv' := [(7, .int x7_3), (6, .int r_1), (0, .ref (ad 0)), (1, .int a1), (2, .int a2), (3, .long a3), (5, .int a5)]) hx hb dX0_shelve_12 hl (by decide) rfl (fun ls hl => ?_)
  refine lv_iload hx hb dX0_shelve_14 (lv_at hl 0 rfl) ?_
  refine lv_iload hx hb dX0_shelve_16 (lv_at hl 6 rfl) ?_
  refine lv_icmp_lt (tgt := 39) hx hb dX0_shelve_18 (by decide) (fun c => ?_) (fun c => ?_)
  · have h := h.1 c
    refine lv_iload hx hb dX0_shelve_39 (lv_at hl 0 rfl) ?_
    refine lv_iload hx hb dX0_shelve_41 (lv_at hl 6 rfl) ?_
    refine lv_iconst (v := 1) hx hb dX0_shelve_43 (by decide) ?_
    refine lv_isub hx hb dX0_shelve_44 ?_
    refine va_mmin hx hb (hml.trans hl.1.symm) hown (hts (.methodLink RX0 9 Lib.Math.min.name) (by decide +kernel)) (hts (.static Lib.Math.min.name) (by decide +kernel)) (hts (.initialized "java/lang/Math") (by decide +kernel)) (hts (.code Lib.Math.min.name Lib.Math.min.code 2 (some .int)) (by decide +kernel)) (Nat.le_of_ble_eq_true rfl) (Nat.le_of_ble_eq_true rfl) (Nat.le_of_ble_eq_true rfl) (Nat.le_of_ble_eq_true rfl) dX0_shelve_45 ?_
    refine W.eq (g2 := F0 m 48 ls [.int (zMin x7_3 (a5 - 1))]) rfl ?_
    refine lv_topi (fun x8_4 ex8_4 => ?_)
    have h := h x8_4 ex8_4
    refine lv_istore (lv' := [(8, .int x8_4), (7, .int x7_3), (6, .int r_1), (0, .ref (ad 0)), (1, .int a1), (2, .int a2), (3, .long a3), (5, .int a5)]) hx hb dX0_shelve_48 hl (by decide) rfl (fun ls hl => ?_)
    obtain ⟨n_13, h⟩ := h
    exact tX0_shelve_50 hC0 hK hA hQ n_13 _ _ _ _ _ _ _ _ hP hD hS ls (lv_sub hl [3, 4, 5, 6, 7, 2, 1, 0] rfl) h
  · have h := h.2 c
    refine lv_aload_n hx hb dX0_shelve_21 rfl (lv_at hl 2 rfl) ?_
    refine va_get (D := (dC, dI)) (ci := 1) (v := .ref (ad 4)) (C := RX0) (T := TX0) (N := 11) hx hb hts in_X0_shelve hown hK hP 0 rfl rfl 5 (by decide) (hts (.fieldLink RX0 35 "SignCutter" "endCosts" "[I") (by decide +kernel)) (fun _ h9 => h9) rfl dX0_shelve_22 ?_
    refine lv_iload hx hb dX0_shelve_25 (lv_at hl 1 rfl) ?_
    refine lv_iload hx hb dX0_shelve_27 (lv_at hl 6 rfl) ?_
    refine lv_iadd hx hb dX0_shelve_29 ?_
    refine lv_iconst (v := 1) hx hb dX0_shelve_30 (by decide) ?_
    refine lv_isub hx hb dX0_shelve_31 ?_
    refine z_iald hx hb hK hP 4 3 rfl rfl h dX0_shelve_32 (fun j_14 h => ?_)
    refine lv_iload_n hx hb dX0_shelve_33 rfl (lv_at hl 4 rfl) ?_
    refine lv_icmp_gt (tgt := 39) hx hb dX0_shelve_34 (by decide) (fun c => ?_) (fun c => ?_)
    · have h := h.1 c
      refine lv_iload hx hb dX0_shelve_39 (lv_at hl 0 rfl) ?_
      refine lv_iload hx hb dX0_shelve_41 (lv_at hl 6 rfl) ?_
      refine lv_iconst (v := 1) hx hb dX0_shelve_43 (by decide) ?_
      refine lv_isub hx hb dX0_shelve_44 ?_
      refine va_mmin hx hb (hml.trans hl.1.symm) hown (hts (.methodLink RX0 9 Lib.Math.min.name) (by decide +kernel)) (hts (.static Lib.Math.min.name) (by decide +kernel)) (hts (.initialized "java/lang/Math") (by decide +kernel)) (hts (.code Lib.Math.min.name Lib.Math.min.code 2 (some .int)) (by decide +kernel)) (Nat.le_of_ble_eq_true rfl) (Nat.le_of_ble_eq_true rfl) (Nat.le_of_ble_eq_true rfl) (Nat.le_of_ble_eq_true rfl) dX0_shelve_45 ?_
      refine W.eq (g2 := F0 m 48 ls [.int (zMin x7_3 (a5 - 1))]) rfl ?_
      refine lv_topi (fun x8_15 ex8_15 => ?_)
      have h := h x8_15 ex8_15
      refine lv_istore (lv' := [(8, .int x8_15), (7, .int x7_3), (6, .int r_1), (0, .ref (ad 0)), (1, .int a1), (2, .int a2), (3, .long a3), (5, .int a5)]) hx hb dX0_shelve_48 hl (by decide) rfl (fun ls hl => ?_)
      obtain ⟨n_16, h⟩ := h
      exact tX0_shelve_50 hC0 hK hA hQ n_16 _ _ _ _ _ _ _ _ hP hD hS ls (lv_sub hl [3, 4, 5, 6, 7, 2, 1, 0] rfl) h
    · have h := h.2 c
      refine lv_iconst (v := 0) hx hb dX0_shelve_37 (by decide) ?_
      exact W.zret (v := 0) hx hb hr rfl (hQ _ _ _ _ _ _ hP hD hS h) hS.2.2 dX0_shelve_38
theorem in_X0_goOnFrom : ∀ w ∈ wsX00, w ∈ wsX0_goOnFrom := by decide +kernel
set_option maxHeartbeats 4000000 in
set_option maxRecDepth 100000 in
theorem tX0_goOnFrom_11 {p : Program} {l : Launch} {e : Env} {s : State} {m : MethodId} {args : Array Value} {below : List Frame} {meth : Method} {c : Code} {dC : Nat → ClassId} {dI : Nat → Nat → Nat} {ad : Nat → Nat} {cA : Nat → ClassId} {nW : Nat} {nH : Nat} {ff : Int32} {fd : Int32} {cols : Nat → Int64} {rows : Nat → Int64} {tails : Nat → Int32} {longer : Nat → Int32} {a1 : Int32} {a2 : Int32} {a3 : Int32} {a4 : Int32} {Post : (Nat → Int64) → (Nat → Int32) → (Nat → Int32) → Prop} (hC : zC p s m args meth c cX0_goOnFrom wsX0_goOnFrom none 8 RX0) (hK : va_K (dC, dI) vwCl (tX0 cA) s) {A : Nat → Prop} (hA : ∀ q, s.heap.size ≤ q → A q) {Qc : Array Value → State → Outcome → State → Prop} (hQ : ∀ (ends : Nat → Int64) (ecost : Nat → Int32) (ecnt : Nat → Int32) (H : Heap) (locs : List Loc), va_P (dC, dI) vwCl (wX0 ad cA nW nH ff fd cols rows ends ecost ecnt tails longer) H → va_D A (wX0 ad cA nW nH ff fd cols rows ends ecost ecnt tails longer) → va_S A s.heap H locs → Post ends ecost ecnt → ∀ t : State, t.heap = H → s.WarmedH t.vm → Qc args s (.returned none) t) : ∀ (n : Nat), ∀ (x5 : Int32) (x6 : Int32) (ends : Nat → Int64) (ecost : Nat → Int32) (ecnt : Nat → Int32) (H : Heap) (locs : List Loc), va_P (dC, dI) vwCl (wX0 ad cA nW nH ff fd cols rows ends ecost ecnt tails longer) H → va_D A (wX0 ad cA nW nH ff fd cols rows ends ecost ecnt tails longer) → va_S A s.heap H locs → ∀ (ls : Array Slot), lv_has ls 8 [(0, .ref (ad 0)), (1, .int a1), (2, .int a2), (3, .int a3), (4, .int a4), (5, .int x5), (6, .int x6)] → lX0_goOnFrom_11 nW a1 a2 a3 a4 Post n x5 x6 ends ecost ecnt → W p l e ({ frames := 2, cells := 0, slots := 0, locals := 52 } : Room) s m args below meth c H locs 0 0 (MQ below Qc args s 0 0 A) (F0 m 11 ls []) := by
  have hC0 := hC
  obtain ⟨hx, hb, hr, hml, hown, hts, hlocks⟩ := hC
  intro n
  induction n with
  | zero =>
    intro x5 x6 ends ecost ecnt H locs hP hD hS ls hl h
    exact h.elim
  | succ n hr11 =>
    intro x5 x6 ends ecost ecnt H locs hP hD hS ls hl h
    have h : bX0_goOnFrom_11 nW a1 a2 a3 a4 Post (lX0_goOnFrom_11 nW a1 a2 a3 a4 Post n) x5 x6 ends ecost ecnt := h
    unfold bX0_goOnFrom_11 at h
    refine lv_iload hx hb dX0_goOnFrom_11 (lv_at hl 6 rfl) ?_
    refine lv_iload hx hb dX0_goOnFrom_13 (lv_at hl 5 rfl) ?_
    refine lv_icmp_ge (tgt := 64) hx hb dX0_goOnFrom_15 (by decide) (fun c => ?_) (fun c => ?_)
    · have h := h.1 c
      exact W.vret hx hb hr (hQ _ _ _ _ _ hP hD hS h) hS.2.2 dX0_goOnFrom_64
    · have h := h.2 c
      refine lv_iload_n hx hb dX0_goOnFrom_18 rfl (lv_at hl 1 rfl) ?_
      refine z_cSi (As := [.int a1]) (rest := []) ⟨hx, hb, hml, hown, hts⟩ (mX0_shelf l h) (va_cwS 1 hts gX0_goOnFrom_X0_shelf rfl rfl rfl (by decide +kernel) ⟨Nat.le_of_ble_eq_true rfl, Nat.le_of_ble_eq_true rfl⟩) rfl hl.1 rfl (Nat.le_of_ble_eq_true rfl) dX0_goOnFrom_19 ⟨Nat.le_of_ble_eq_true rfl, Nat.le_of_ble_eq_true rfl⟩ (fun r_3 h => ?_)
      refine lv_iload hx hb dX0_goOnFrom_22 (lv_at hl 6 rfl) ?_
      refine lv_iadd hx hb dX0_goOnFrom_24 ?_
      refine lv_topi (fun x7_4 ex7_4 => ?_)
      have h := h x7_4 ex7_4
      refine lv_istore (lv' := [(7, .int x7_4), (0, .ref (ad 0)), (1, .int a1), (2, .int a2), (3, .int a3), (4, .int a4), (5, .int x5), (6, .int x6)]) hx hb dX0_goOnFrom_25 hl (by decide) rfl (fun ls hl => ?_)
      refine lv_aload_n hx hb dX0_goOnFrom_27 rfl (lv_at hl 1 rfl) ?_
      refine lv_iload_n hx hb dX0_goOnFrom_28 rfl (lv_at hl 3 rfl) ?_
      refine lv_iload_n hx hb dX0_goOnFrom_29 rfl (lv_at hl 4 rfl) ?_
      refine lv_aload_n hx hb dX0_goOnFrom_30 rfl (lv_at hl 1 rfl) ?_
      refine va_get (D := (dC, dI)) (ci := 1) (v := .ref (ad 4)) (C := RX0) (T := TX0) (N := 11) hx hb hts in_X0_goOnFrom hown hK hP 0 rfl rfl 5 (by decide) (hts (.fieldLink RX0 35 "SignCutter" "endCosts" "[I") (by decide +kernel)) (fun _ h9 => h9) rfl dX0_goOnFrom_31 ?_
      refine lv_iload hx hb dX0_goOnFrom_34 (lv_at hl 0 rfl) ?_
      refine z_iald hx hb hK hP 4 3 rfl rfl h dX0_goOnFrom_36 (fun j_5 h => ?_)
      refine lv_iadd hx hb dX0_goOnFrom_37 ?_
      refine lv_aload_n hx hb dX0_goOnFrom_38 rfl (lv_at hl 1 rfl) ?_
      refine va_get (D := (dC, dI)) (ci := 1) (v := .ref (ad 3)) (C := RX0) (T := TX0) (N := 11) hx hb hts in_X0_goOnFrom hown hK hP 0 rfl rfl 4 (by decide) (hts (.fieldLink RX0 32 "SignCutter" "ends" "[J") (by decide +kernel)) (fun _ h9 => h9) rfl dX0_goOnFrom_39 ?_
      refine lv_iload hx hb dX0_goOnFrom_42 (lv_at hl 0 rfl) ?_
      refine z_lald hx hb hK hP 3 2 rfl rfl h dX0_goOnFrom_44 (fun j_6 h => ?_)
      refine lv_lconst (v := 1) hx hb dX0_goOnFrom_45 (by decide) ?_
      refine lv_iload_n hx hb dX0_goOnFrom_46 rfl (lv_at hl 3 rfl) ?_
      refine lv_lshl (v := (zShl 1 a2)) hx hb dX0_goOnFrom_47 rfl ?_
      refine lv_lor hx hb dX0_goOnFrom_48 ?_
      refine lv_iload hx hb dX0_goOnFrom_49 (lv_at hl 5 rfl) ?_
      refine z_cVwi (ci := 1) (As := [.int a2, .int (a3 + (ecost j_5)), .long ((ends j_6) ||| (zShl 1 a2)), .int a4]) (rest := []) ⟨hx, hb, hml, hown, hts⟩ (mX0_shelve l h) (cwV 4 hts gX0_goOnFrom_X0_shelve rfl rfl rfl (by decide +kernel) ⟨Nat.le_of_ble_eq_true rfl, Nat.le_of_ble_eq_true rfl⟩) hK hP hD hS hA 0 rfl rfl rfl rfl hl.1 rfl (Nat.le_of_ble_eq_true rfl) dX0_goOnFrom_51 ⟨Nat.le_of_ble_eq_true rfl, Nat.le_of_ble_eq_true rfl⟩ (fun r_8 u_7 H locs h hP hD hS => ?_)
      revert h hP hD
      generalize u_7.1 = ends_9
      generalize u_7.2.1 = ecost_10
      generalize u_7.2.2 = ecnt_11
      intro h hP hD
      have hP : va_P (dC, dI) vwCl (wX0 ad cA nW nH ff fd cols rows ends_9 ecost_10 ecnt_11 tails longer) H := hP
      have hD : va_D A (wX0 ad cA nW nH ff fd cols rows ends_9 ecost_10 ecnt_11 tails longer) := hD
      refine lv_if_ne (tgt := 58) hx hb dX0_goOnFrom_54 (by decide) (fun c => ?_) (fun c => ?_)
      · have h := h.2 c
        refine lv_iinc (v := (x6 + 1)) (lv' := [(6, .int (x6 + 1)), (7, .int x7_4), (0, .ref (ad 0)), (1, .int a1), (2, .int a2), (3, .int a3), (4, .int a4), (5, .int x5)]) hx hb dX0_goOnFrom_58 hl (k := 7) rfl rfl (by decide) rfl (fun ls hl => ?_)
        refine lv_goto (tgt := 11) hx hb dX0_goOnFrom_61 (by decide) ?_
        exact hr11 _ _ _ _ _ _ _ hP hD hS ls (lv_sub hl [2, 3, 4, 5, 6, 7, 0] rfl) h
      · have h := h.1 c
        exact W.vret hx hb hr (hQ _ _ _ _ _ hP hD hS h) hS.2.2 dX0_goOnFrom_57
set_option maxHeartbeats 4000000 in
set_option maxRecDepth 100000 in
theorem mX0_goOnFrom (l : Launch) {dC : Nat → ClassId} {dI : Nat → Nat → Nat} {ad : Nat → Nat} {cA : Nat → ClassId} {nW : Nat} {nH : Nat} {ff : Int32} {fd : Int32} {cols : Nat → Int64} {rows : Nat → Int64} {ends : Nat → Int64} {ecost : Nat → Int32} {ecnt : Nat → Int32} {tails : Nat → Int32} {longer : Nat → Int32} {sz : Nat} {a1 : Int32} {a2 : Int32} {a3 : Int32} {a4 : Int32} {Post : (Nat → Int64) → (Nat → Int32) → (Nat → Int32) → Prop} (h : wX0_goOnFrom nW ends ecost ecnt a1 a2 a3 a4 Post) : Met l yX0_goOnFrom wsX0_goOnFrom ({ frames := 2, cells := 0, slots := 0, locals := 52 } : Room) (zPw (dC, dI) vwCl (tX0 cA) (wX0 ad cA nW nH ff fd cols rows ends ecost ecnt tails longer) sz [.ref (ad 0), .int a1, .int a2, .int a3, .int a4]) (va_Qv (S := (Nat → Int64) × (Nat → Int32) × (Nat → Int32)) (fun (u : (Nat → Int64) × (Nat → Int32) × (Nat → Int32)) => Post u.1 u.2.1 u.2.2) (zB (dC, dI) vwCl (tX0 cA) (wX0 ad cA nW nH ff fd cols rows ends ecost ecnt tails longer) sz (fun u : (Nat → Int64) × (Nat → Int32) × (Nat → Int32) => wX0 ad cA nW nH ff fd cols rows u.1 u.2.1 u.2.2 tails longer)) (va_A (wX0 ad cA nW nH ff fd cols rows ends ecost ecnt tails longer) sz)) 0 0 (va_A (wX0 ad cA nW nH ff fd cols rows ends ecost ecnt tails longer) sz) := by
  refine Met.ofW (cc := cX0_goOnFrom) (maxL := 8) (ret := none) (by decide) rfl ?_
  intro p e s m args below meth c s₁ B hml hv
  obtain ⟨rfl, hsz, hP, hK, hD0⟩ := hv
  have hC : zC p s m [.ref (ad 0), .int a1, .int a2, .int a3, .int a4].toArray meth c cX0_goOnFrom wsX0_goOnFrom none 8 RX0 := ⟨B.exec, B.bytes, B.returns, hml, findClass_of_methodNamed B.named, atoms_spec (ws := wsX0_goOnFrom) B.pre, B.notSynchronized⟩
  have hC0 := hC
  obtain ⟨hx, hb, hr, hml, hown, hts, hlocks⟩ := hC
  subst hsz
  have hD := hD0.self (sz := s.heap.size)
  have hA : ∀ q : Nat, s.heap.size ≤ q → va_A (wX0 ad cA nW nH ff fd cols rows ends ecost ecnt tails longer) s.heap.size q := fun q h => Or.inr h
  have hS : va_S (va_A (wX0 ad cA nW nH ff fd cols rows ends ecost ecnt tails longer) s.heap.size) s.heap s.heap [] := va_S.rf
  generalize hQe : (va_Qv (S := (Nat → Int64) × (Nat → Int32) × (Nat → Int32)) (fun (u : (Nat → Int64) × (Nat → Int32) × (Nat → Int32)) => Post u.1 u.2.1 u.2.2) (zB (dC, dI) vwCl (tX0 cA) (wX0 ad cA nW nH ff fd cols rows ends ecost ecnt tails longer) s.heap.size (fun u : (Nat → Int64) × (Nat → Int32) × (Nat → Int32) => wX0 ad cA nW nH ff fd cols rows u.1 u.2.1 u.2.2 tails longer)) (va_A (wX0 ad cA nW nH ff fd cols rows ends ecost ecnt tails longer) s.heap.size)) = Qc
  generalize hAe : va_A (wX0 ad cA nW nH ff fd cols rows ends ecost ecnt tails longer) s.heap.size = A at hD hA hS hQe ⊢
  have hQ : ∀ (ends : Nat → Int64) (ecost : Nat → Int32) (ecnt : Nat → Int32) (H : Heap) (locs : List Loc), va_P (dC, dI) vwCl (wX0 ad cA nW nH ff fd cols rows ends ecost ecnt tails longer) H → va_D A (wX0 ad cA nW nH ff fd cols rows ends ecost ecnt tails longer) → va_S A s.heap H locs → Post ends ecost ecnt → ∀ t : State, t.heap = H → s.WarmedH t.vm → Qc [.ref (ad 0), .int a1, .int a2, .int a3, .int a4].toArray s (.returned none) t := by
    intro ends ecost ecnt H locs hP hD hS h t ht hW
    rw [← hQe]
    exact ⟨⟨(ends, ecost, ecnt), rfl, h, by rw [ht]; exact hP, va_K.moved hW.alike hK, hAe ▸ hD⟩, hS.F ht⟩
  clear hQe hAe
  have hl := lv_entry ([.ref (ad 0), .int a1, .int a2, .int a3, .int a4]) (n := 8) (Nat.le_of_ble_eq_true rfl)
  rw [lg_entry_eq]
  generalize (lg_sl ([.ref (ad 0), .int a1, .int a2, .int a3, .int a4]) ++ List.replicate (8 - (lg_sl ([.ref (ad 0), .int a1, .int a2, .int a3, .int a4])).length) Slot.unset).toArray = ls at hl ⊢
  have hl : lv_has ls 8 [(0, .ref (ad 0)), (1, .int a1), (2, .int a2), (3, .int a3), (4, .int a4)] := hl
  show W p l e ({ frames := 2, cells := 0, slots := 0, locals := 52 } : Room) s m _ below meth c s.heap [] 0 0 (MQ below Qc _ s 0 0 A) (F0 m 0 ls [])
  unfold wX0_goOnFrom at h
  refine lv_aload_n hx hb dX0_goOnFrom_0 rfl (lv_at hl 0 rfl) ?_
  refine va_get (D := (dC, dI)) (ci := 1) (v := .ref (ad 5)) (C := RX0) (T := TX0) (N := 11) hx hb hts in_X0_goOnFrom hown hK hP 0 rfl rfl 6 (by decide) (hts (.fieldLink RX0 39 "SignCutter" "endCounts" "[I") (by decide +kernel)) (fun _ h9 => h9) rfl dX0_goOnFrom_1 ?_
  refine lv_iload_n hx hb dX0_goOnFrom_4 rfl (lv_at hl 1 rfl) ?_
  refine z_iald hx hb hK hP 5 4 rfl rfl h dX0_goOnFrom_5 (fun j_1 h => ?_)
  refine lv_topi (fun x5_2 ex5_2 => ?_)
  have h := h x5_2 ex5_2
  refine lv_istore (lv' := [(5, .int x5_2), (0, .ref (ad 0)), (1, .int a1), (2, .int a2), (3, .int a3), (4, .int a4)]) hx hb dX0_goOnFrom_6 hl (by decide) rfl (fun ls hl => ?_)
  refine lv_iconst (v := 0) hx hb dX0_goOnFrom_8 (by decide) ?_
  refine lv_istore (lv' := [(6, .int 0), (5, .int x5_2), (0, .ref (ad 0)), (1, .int a1), (2, .int a2), (3, .int a3), (4, .int a4)]) hx hb dX0_goOnFrom_9 hl (by decide) rfl (fun ls hl => ?_)
  obtain ⟨n_12, h⟩ := h
  exact tX0_goOnFrom_11 hC0 hK hA hQ n_12 _ _ _ _ _ _ _ hP hD hS ls (lv_sub hl [2, 3, 4, 5, 6, 1, 0] rfl) h
theorem in_X0_shelveEndsAt : ∀ w ∈ wsX00, w ∈ wsX0_shelveEndsAt := by decide +kernel
set_option maxHeartbeats 4000000 in
set_option maxRecDepth 100000 in
theorem tX0_shelveEndsAt_103 {p : Program} {l : Launch} {e : Env} {s : State} {m : MethodId} {args : Array Value} {below : List Frame} {meth : Method} {c : Code} {dC : Nat → ClassId} {dI : Nat → Nat → Nat} {ad : Nat → Nat} {cA : Nat → ClassId} {nW : Nat} {nH : Nat} {ff : Int32} {fd : Int32} {cols : Nat → Int64} {rows : Nat → Int64} {tails : Nat → Int32} {longer : Nat → Int32} {a1 : Int32} {a2 : Int32} {a3 : Int64} {a5 : Int32} {a6 : Int32} {Post : (Nat → Int64) → (Nat → Int32) → (Nat → Int32) → Prop} (hC : zC p s m args meth c cX0_shelveEndsAt wsX0_shelveEndsAt none 22 RX0) (hK : va_K (dC, dI) vwCl (tX0 cA) s) {A : Nat → Prop} (hA : ∀ q, s.heap.size ≤ q → A q) {Qc : Array Value → State → Outcome → State → Prop} (hQ : ∀ (ends : Nat → Int64) (ecost : Nat → Int32) (ecnt : Nat → Int32) (H : Heap) (locs : List Loc), va_P (dC, dI) vwCl (wX0 ad cA nW nH ff fd cols rows ends ecost ecnt tails longer) H → va_D A (wX0 ad cA nW nH ff fd cols rows ends ecost ecnt tails longer) → va_S A s.heap H locs → Post ends ecost ecnt → ∀ t : State, t.heap = H → s.WarmedH t.vm → Qc args s (.returned none) t) {r28 : Int32 → Int32 → Int32 → Int64 → Int64 → Int64 → Int32 → (Nat → Int64) → (Nat → Int32) → (Nat → Int32) → Prop} (hr28 : ∀ (x7 : Int32) (x8 : Int32) (x9 : Int32) (x10 : Int64) (x12 : Int64) (x14 : Int64) (x16 : Int32) (ends : Nat → Int64) (ecost : Nat → Int32) (ecnt : Nat → Int32) (H : Heap) (locs : List Loc), va_P (dC, dI) vwCl (wX0 ad cA nW nH ff fd cols rows ends ecost ecnt tails longer) H → va_D A (wX0 ad cA nW nH ff fd cols rows ends ecost ecnt tails longer) → va_S A s.heap H locs → ∀ (ls : Array Slot), lv_has ls 22 [(0, .ref (ad 0)), (1, .int a1), (2, .int a2), (3, .long a3), (5, .int a5), (6, .int a6), (7, .int x7), (8, .int x8), (9, .int x9), (10, .long x10), (12, .long x12), (14, .long x14), (16, .int x16)] → r28 x7 x8 x9 x10 x12 x14 x16 ends ecost ecnt → W p l e ({ frames := 3, cells := 0, slots := 0, locals := 79 } : Room) s m args below meth c H locs 0 0 (MQ below Qc args s 0 0 A) (F0 m 28 ls [])) : ∀ (x7 : Int32) (x8 : Int32) (x9 : Int32) (x10 : Int64) (x12 : Int64) (x14 : Int64) (x16 : Int32) (ends : Nat → Int64) (ecost : Nat → Int32) (ecnt : Nat → Int32) (H : Heap) (locs : List Loc), va_P (dC, dI) vwCl (wX0 ad cA nW nH ff fd cols rows ends ecost ecnt tails longer) H → va_D A (wX0 ad cA nW nH ff fd cols rows ends ecost ecnt tails longer) → va_S A s.heap H locs → ∀ (ls : Array Slot), lv_has ls 22 [(0, .ref (ad 0)), (1, .int a1), (2, .int a2), (3, .long a3), (5, .int a5), (6, .int a6), (7, .int x7), (8, .int x8), (9, .int x9), (10, .long x10), (12, .long x12), (14, .long x14), (16, .int x16)] → jX0_shelveEndsAt_103 nW cols a1 a2 a3 a5 a6 Post r28 x7 x8 x9 x10 x12 x14 x16 ends ecost ecnt → W p l e ({ frames := 3, cells := 0, slots := 0, locals := 79 } : Room) s m args below meth c H locs 0 0 (MQ below Qc args s 0 0 A) (F0 m 103 ls []) := by
  have hC0 := hC
  obtain ⟨hx, hb, hr, hml, hown, hts, hlocks⟩ := hC
  intro x7 x8 x9 x10 x12 x14 x16 ends ecost ecnt H locs hP hD hS ls hl h
  unfold jX0_shelveEndsAt_103 at h
  refine lv_iload hx hb dX0_shelveEndsAt_103 (lv_at hl 12 rfl) ?_
  refine lv_iconst (v := 1) hx hb dX0_shelveEndsAt_105 (by decide) ?_
  refine lv_iadd hx hb dX0_shelveEndsAt_106 ?_
  refine lv_topi (fun x19_7 ex19_7 => ?_)
  have h := h x19_7 ex19_7
  refine lv_istore (lv' := [(19, .int x19_7), (0, .ref (ad 0)), (1, .int a1), (2, .int a2), (3, .long a3), (5, .int a5), (6, .int a6), (7, .int x7), (8, .int x8), (9, .int x9), (10, .long x10), (12, .long x12), (14, .long x14), (16, .int x16)]) hx hb dX0_shelveEndsAt_107 hl (by decide) rfl (fun ls hl => ?_)
  refine lv_lload hx hb dX0_shelveEndsAt_109 (lv_at hl 10 rfl) ?_
  refine lv_lconst (v := 0) hx hb dX0_shelveEndsAt_111 (by decide) ?_
  refine W.lcmp hx hb dX0_shelveEndsAt_112 ?_
  refine lv_if_eq (tgt := 184) hx hb dX0_shelveEndsAt_113 (by decide) (fun c => ?_) (fun c => ?_)
  · have h := h.1 c
    refine lv_iinc (v := (x16 + 1)) (lv' := [(16, .int (x16 + 1)), (19, .int x19_7), (0, .ref (ad 0)), (1, .int a1), (2, .int a2), (3, .long a3), (5, .int a5), (6, .int a6), (7, .int x7), (8, .int x8), (9, .int x9), (10, .long x10), (12, .long x12), (14, .long x14)]) hx hb dX0_shelveEndsAt_184 hl (k := 13) rfl rfl (by decide) rfl (fun ls hl => ?_)
    refine lv_goto (tgt := 28) hx hb dX0_shelveEndsAt_187 (by decide) ?_
    exact hr28 _ _ _ _ _ _ _ _ _ _ _ _ hP hD hS ls (lv_sub hl [2, 3, 4, 5, 6, 7, 8, 9, 10, 11, 12, 13, 0] rfl) h
  · have h := h.2 c
    refine lv_lload_n hx hb dX0_shelveEndsAt_116 rfl (lv_at hl 4 rfl) ?_
    refine lv_iload hx hb dX0_shelveEndsAt_117 (lv_at hl 0 rfl) ?_
    refine z_cSi (As := [.long a3, .int x19_7]) (rest := []) ⟨hx, hb, hml, hown, hts⟩ (mX0_has l h) (va_cwS 2 hts gX0_shelveEndsAt_X0_has rfl rfl rfl (by decide +kernel) ⟨Nat.le_of_ble_eq_true rfl, Nat.le_of_ble_eq_true rfl⟩) rfl hl.1 rfl (Nat.le_of_ble_eq_true rfl) dX0_shelveEndsAt_119 ⟨Nat.le_of_ble_eq_true rfl, Nat.le_of_ble_eq_true rfl⟩ (fun r_8 h => ?_)
    refine lv_if_eq (tgt := 184) hx hb dX0_shelveEndsAt_122 (by decide) (fun c => ?_) (fun c => ?_)
    · have h := h.1 c
      refine lv_iinc (v := (x16 + 1)) (lv' := [(16, .int (x16 + 1)), (19, .int x19_7), (0, .ref (ad 0)), (1, .int a1), (2, .int a2), (3, .long a3), (5, .int a5), (6, .int a6), (7, .int x7), (8, .int x8), (9, .int x9), (10, .long x10), (12, .long x12), (14, .long x14)]) hx hb dX0_shelveEndsAt_184 hl (k := 13) rfl rfl (by decide) rfl (fun ls hl => ?_)
      refine lv_goto (tgt := 28) hx hb dX0_shelveEndsAt_187 (by decide) ?_
      exact hr28 _ _ _ _ _ _ _ _ _ _ _ _ hP hD hS ls (lv_sub hl [2, 3, 4, 5, 6, 7, 8, 9, 10, 11, 12, 13, 0] rfl) h
    · have h := h.2 c
      refine lv_iload hx hb dX0_shelveEndsAt_125 (lv_at hl 8 rfl) ?_
      refine lv_iload hx hb dX0_shelveEndsAt_127 (lv_at hl 7 rfl) ?_
      refine lv_isub hx hb dX0_shelveEndsAt_129 ?_
      refine lv_iconst (v := 1) hx hb dX0_shelveEndsAt_130 (by decide) ?_
      refine lv_iadd hx hb dX0_shelveEndsAt_131 ?_
      refine lv_topi (fun x20_9 ex20_9 => ?_)
      have h := h x20_9 ex20_9
      refine lv_istore (lv' := [(20, .int x20_9), (19, .int x19_7), (0, .ref (ad 0)), (1, .int a1), (2, .int a2), (3, .long a3), (5, .int a5), (6, .int a6), (7, .int x7), (8, .int x8), (9, .int x9), (10, .long x10), (12, .long x12), (14, .long x14), (16, .int x16)]) hx hb dX0_shelveEndsAt_132 hl (by decide) rfl (fun ls hl => ?_)
      refine lv_iload hx hb dX0_shelveEndsAt_134 (lv_at hl 0 rfl) ?_
      refine lv_iload hx hb dX0_shelveEndsAt_136 (lv_at hl 0 rfl) ?_
      refine lv_iload hx hb dX0_shelveEndsAt_138 (lv_at hl 10 rfl) ?_
      refine lv_isub hx hb dX0_shelveEndsAt_140 ?_
      refine lv_lload hx hb dX0_shelveEndsAt_141 (lv_at hl 13 rfl) ?_
      refine z_cSi (As := [.long x14]) (rest := [.int (x20_9 - x9), .int x20_9]) ⟨hx, hb, hml, hown, hts⟩ (mJ13_bitCount_95d88 l h) (va_cwS 1 hts gX0_shelveEndsAt_J13_bitCount_95d88 rfl rfl rfl (by decide +kernel) ⟨Nat.le_of_ble_eq_true rfl, Nat.le_of_ble_eq_true rfl⟩) rfl hl.1 rfl (Nat.le_of_ble_eq_true rfl) dX0_shelveEndsAt_143 ⟨Nat.le_of_ble_eq_true rfl, Nat.le_of_ble_eq_true rfl⟩ (fun r_10 h => ?_)
      refine lv_iload hx hb dX0_shelveEndsAt_146 (lv_at hl 6 rfl) ?_
      refine z_cSi (As := [.int x20_9, .int (x20_9 - x9), .int r_10, .int a5]) (rest := []) ⟨hx, hb, hml, hown, hts⟩ (mX0_signCost l h) (va_cwS 4 hts gX0_shelveEndsAt_X0_signCost rfl rfl rfl (by decide +kernel) ⟨Nat.le_of_ble_eq_true rfl, Nat.le_of_ble_eq_true rfl⟩) rfl hl.1 rfl (Nat.le_of_ble_eq_true rfl) dX0_shelveEndsAt_148 ⟨Nat.le_of_ble_eq_true rfl, Nat.le_of_ble_eq_true rfl⟩ (fun r_11 h => ?_)
      refine lv_istore (lv' := [(21, .int r_11), (20, .int x20_9), (19, .int x19_7), (0, .ref (ad 0)), (1, .int a1), (2, .int a2), (3, .long a3), (5, .int a5), (6, .int a6), (7, .int x7), (8, .int x8), (9, .int x9), (10, .long x10), (12, .long x12), (14, .long x14), (16, .int x16)]) hx hb dX0_shelveEndsAt_151 hl (by decide) rfl (fun ls hl => ?_)
      refine lv_aload_n hx hb dX0_shelveEndsAt_153 rfl (lv_at hl 3 rfl) ?_
      refine lv_iload hx hb dX0_shelveEndsAt_154 (lv_at hl 2 rfl) ?_
      refine lv_iload_n hx hb dX0_shelveEndsAt_156 rfl (lv_at hl 4 rfl) ?_
      refine lv_iload hx hb dX0_shelveEndsAt_157 (lv_at hl 0 rfl) ?_
      refine lv_iload hx hb dX0_shelveEndsAt_159 (lv_at hl 2 rfl) ?_
      refine lv_iload_n hx hb dX0_shelveEndsAt_161 rfl (lv_at hl 5 rfl) ?_
      refine lv_icmp_ge (tgt := 177) hx hb dX0_shelveEndsAt_162 (by decide) (fun c => ?_) (fun c => ?_)
      · have h := h.1 c
        refine lv_iconst (v := 0) hx hb dX0_shelveEndsAt_177 (by decide) ?_
        refine lv_iadd hx hb dX0_shelveEndsAt_178 ?_
        refine lv_iload hx hb dX0_shelveEndsAt_179 (lv_at hl 8 rfl) ?_
        refine z_cVv (ci := 1) (As := [.int x19_7, .int a1, .int (r_11 + 0), .int a6]) (rest := []) ⟨hx, hb, hml, hown, hts⟩ (mX0_goOnFrom l h) (cwV 4 hts gX0_shelveEndsAt_X0_goOnFrom rfl rfl rfl (by decide +kernel) ⟨Nat.le_of_ble_eq_true rfl, Nat.le_of_ble_eq_true rfl⟩) hK hP hD hS hA 0 rfl rfl rfl rfl hl.1 rfl (Nat.le_of_ble_eq_true rfl) dX0_shelveEndsAt_181 ⟨Nat.le_of_ble_eq_true rfl, Nat.le_of_ble_eq_true rfl⟩ (fun u_12 H locs h hP hD hS => ?_)
        revert h hP hD
        generalize u_12.1 = ends_14
        generalize u_12.2.1 = ecost_15
        generalize u_12.2.2 = ecnt_16
        intro h hP hD
        have hP : va_P (dC, dI) vwCl (wX0 ad cA nW nH ff fd cols rows ends_14 ecost_15 ecnt_16 tails longer) H := hP
        have hD : va_D A (wX0 ad cA nW nH ff fd cols rows ends_14 ecost_15 ecnt_16 tails longer) := hD
        refine lv_iinc (v := (x16 + 1)) (lv' := [(16, .int (x16 + 1)), (21, .int r_11), (20, .int x20_9), (19, .int x19_7), (0, .ref (ad 0)), (1, .int a1), (2, .int a2), (3, .long a3), (5, .int a5), (6, .int a6), (7, .int x7), (8, .int x8), (9, .int x9), (10, .long x10), (12, .long x12), (14, .long x14)]) hx hb dX0_shelveEndsAt_184 hl (k := 15) rfl rfl (by decide) rfl (fun ls hl => ?_)
        refine lv_goto (tgt := 28) hx hb dX0_shelveEndsAt_187 (by decide) ?_
        exact hr28 _ _ _ _ _ _ _ _ _ _ _ _ hP hD hS ls (lv_sub hl [4, 5, 6, 7, 8, 9, 10, 11, 12, 13, 14, 15, 0] rfl) h
      · have h := h.2 c
        refine lv_bipush (v := 10) hx hb dX0_shelveEndsAt_165 (by decide) ?_
        refine lv_aload_n hx hb dX0_shelveEndsAt_167 rfl (lv_at hl 3 rfl) ?_
        refine lv_iload hx hb dX0_shelveEndsAt_168 (lv_at hl 2 rfl) ?_
        refine z_cVi (ci := 1) (As := [.int x19_7]) (rest := [.int 10, .int r_11, .int a1, .int x19_7, .ref (ad 0)]) ⟨hx, hb, hml, hown, hts⟩ (mX0_touch l h) (cwV 1 hts gX0_shelveEndsAt_X0_touch rfl rfl rfl (by decide +kernel) ⟨Nat.le_of_ble_eq_true rfl, Nat.le_of_ble_eq_true rfl⟩) hK hP 0 rfl rfl rfl rfl hl.1 rfl (Nat.le_of_ble_eq_true rfl) dX0_shelveEndsAt_170 ⟨Nat.le_of_ble_eq_true rfl, Nat.le_of_ble_eq_true rfl⟩ (fun r_17 h => ?_)
        refine lv_imul hx hb dX0_shelveEndsAt_173 ?_
        refine lv_goto (tgt := 178) hx hb dX0_shelveEndsAt_174 (by decide) ?_
        refine lv_iadd hx hb dX0_shelveEndsAt_178 ?_
        refine lv_iload hx hb dX0_shelveEndsAt_179 (lv_at hl 8 rfl) ?_
        refine z_cVv (ci := 1) (As := [.int x19_7, .int a1, .int (r_11 + (10 * r_17)), .int a6]) (rest := []) ⟨hx, hb, hml, hown, hts⟩ (mX0_goOnFrom l h) (cwV 4 hts gX0_shelveEndsAt_X0_goOnFrom rfl rfl rfl (by decide +kernel) ⟨Nat.le_of_ble_eq_true rfl, Nat.le_of_ble_eq_true rfl⟩) hK hP hD hS hA 0 rfl rfl rfl rfl hl.1 rfl (Nat.le_of_ble_eq_true rfl) dX0_shelveEndsAt_181 ⟨Nat.le_of_ble_eq_true rfl, Nat.le_of_ble_eq_true rfl⟩ (fun u_18 H locs h hP hD hS => ?_)
        revert h hP hD
        generalize u_18.1 = ends_20
        generalize u_18.2.1 = ecost_21
        generalize u_18.2.2 = ecnt_22
        intro h hP hD
        have hP : va_P (dC, dI) vwCl (wX0 ad cA nW nH ff fd cols rows ends_20 ecost_21 ecnt_22 tails longer) H := hP
        have hD : va_D A (wX0 ad cA nW nH ff fd cols rows ends_20 ecost_21 ecnt_22 tails longer) := hD
        refine lv_iinc (v := (x16 + 1)) (lv' := [(16, .int (x16 + 1)), (21, .int r_11), (20, .int x20_9), (19, .int x19_7), (0, .ref (ad 0)), (1, .int a1), (2, .int a2), (3, .long a3), (5, .int a5), (6, .int a6), (7, .int x7), (8, .int x8), (9, .int x9), (10, .long x10), (12, .long x12), (14, .long x14)]) hx hb dX0_shelveEndsAt_184 hl (k := 15) rfl rfl (by decide) rfl (fun ls hl => ?_)
        refine lv_goto (tgt := 28) hx hb dX0_shelveEndsAt_187 (by decide) ?_
        exact hr28 _ _ _ _ _ _ _ _ _ _ _ _ hP hD hS ls (lv_sub hl [4, 5, 6, 7, 8, 9, 10, 11, 12, 13, 14, 15, 0] rfl) h
set_option maxHeartbeats 4000000 in
set_option maxRecDepth 100000 in
theorem tX0_shelveEndsAt_94 {p : Program} {l : Launch} {e : Env} {s : State} {m : MethodId} {args : Array Value} {below : List Frame} {meth : Method} {c : Code} {dC : Nat → ClassId} {dI : Nat → Nat → Nat} {ad : Nat → Nat} {cA : Nat → ClassId} {nW : Nat} {nH : Nat} {ff : Int32} {fd : Int32} {cols : Nat → Int64} {rows : Nat → Int64} {tails : Nat → Int32} {longer : Nat → Int32} {a1 : Int32} {a2 : Int32} {a3 : Int64} {a5 : Int32} {a6 : Int32} {Post : (Nat → Int64) → (Nat → Int32) → (Nat → Int32) → Prop} (hC : zC p s m args meth c cX0_shelveEndsAt wsX0_shelveEndsAt none 22 RX0) (hK : va_K (dC, dI) vwCl (tX0 cA) s) {A : Nat → Prop} (hA : ∀ q, s.heap.size ≤ q → A q) {Qc : Array Value → State → Outcome → State → Prop} (hQ : ∀ (ends : Nat → Int64) (ecost : Nat → Int32) (ecnt : Nat → Int32) (H : Heap) (locs : List Loc), va_P (dC, dI) vwCl (wX0 ad cA nW nH ff fd cols rows ends ecost ecnt tails longer) H → va_D A (wX0 ad cA nW nH ff fd cols rows ends ecost ecnt tails longer) → va_S A s.heap H locs → Post ends ecost ecnt → ∀ t : State, t.heap = H → s.WarmedH t.vm → Qc args s (.returned none) t) {r28 : Int32 → Int32 → Int32 → Int64 → Int64 → Int64 → Int32 → (Nat → Int64) → (Nat → Int32) → (Nat → Int32) → Prop} (hr28 : ∀ (x7 : Int32) (x8 : Int32) (x9 : Int32) (x10 : Int64) (x12 : Int64) (x14 : Int64) (x16 : Int32) (ends : Nat → Int64) (ecost : Nat → Int32) (ecnt : Nat → Int32) (H : Heap) (locs : List Loc), va_P (dC, dI) vwCl (wX0 ad cA nW nH ff fd cols rows ends ecost ecnt tails longer) H → va_D A (wX0 ad cA nW nH ff fd cols rows ends ecost ecnt tails longer) → va_S A s.heap H locs → ∀ (ls : Array Slot), lv_has ls 22 [(0, .ref (ad 0)), (1, .int a1), (2, .int a2), (3, .long a3), (5, .int a5), (6, .int a6), (7, .int x7), (8, .int x8), (9, .int x9), (10, .long x10), (12, .long x12), (14, .long x14), (16, .int x16)] → r28 x7 x8 x9 x10 x12 x14 x16 ends ecost ecnt → W p l e ({ frames := 3, cells := 0, slots := 0, locals := 79 } : Room) s m args below meth c H locs 0 0 (MQ below Qc args s 0 0 A) (F0 m 28 ls [])) : ∀ (x9 : Int32) (x10 : Int64) (x12 : Int64) (x14 : Int64) (x16 : Int32) (s0 : Int32) (ends : Nat → Int64) (ecost : Nat → Int32) (ecnt : Nat → Int32) (H : Heap) (locs : List Loc), va_P (dC, dI) vwCl (wX0 ad cA nW nH ff fd cols rows ends ecost ecnt tails longer) H → va_D A (wX0 ad cA nW nH ff fd cols rows ends ecost ecnt tails longer) → va_S A s.heap H locs → ∀ (ls : Array Slot), lv_has ls 22 [(0, .ref (ad 0)), (1, .int a1), (2, .int a2), (3, .long a3), (5, .int a5), (6, .int a6), (9, .int x9), (10, .long x10), (12, .long x12), (14, .long x14), (16, .int x16)] → jX0_shelveEndsAt_94 nW cols a1 a2 a3 a5 a6 Post r28 x9 x10 x12 x14 x16 s0 ends ecost ecnt → W p l e ({ frames := 3, cells := 0, slots := 0, locals := 79 } : Room) s m args below meth c H locs 0 0 (MQ below Qc args s 0 0 A) (F0 m 94 ls [.int s0]) := by
  have hC0 := hC
  obtain ⟨hx, hb, hr, hml, hown, hts, hlocks⟩ := hC
  intro x9 x10 x12 x14 x16 s0 ends ecost ecnt H locs hP hD hS ls hl h
  unfold jX0_shelveEndsAt_94 at h
  refine lv_istore (lv' := [(7, .int s0), (0, .ref (ad 0)), (1, .int a1), (2, .int a2), (3, .long a3), (5, .int a5), (6, .int a6), (9, .int x9), (10, .long x10), (12, .long x12), (14, .long x14), (16, .int x16)]) hx hb dX0_shelveEndsAt_94 hl (by decide) rfl (fun ls hl => ?_)
  refine lv_iload hx hb dX0_shelveEndsAt_96 (lv_at hl 11 rfl) ?_
  refine lv_istore (lv' := [(8, .int x16), (7, .int s0), (0, .ref (ad 0)), (1, .int a1), (2, .int a2), (3, .long a3), (5, .int a5), (6, .int a6), (9, .int x9), (10, .long x10), (12, .long x12), (14, .long x14), (16, .int x16)]) hx hb dX0_shelveEndsAt_98 hl (by decide) rfl (fun ls hl => ?_)
  refine lv_iinc (v := (x9 + 1)) (lv' := [(9, .int (x9 + 1)), (8, .int x16), (7, .int s0), (0, .ref (ad 0)), (1, .int a1), (2, .int a2), (3, .long a3), (5, .int a5), (6, .int a6), (10, .long x10), (12, .long x12), (14, .long x14), (16, .int x16)]) hx hb dX0_shelveEndsAt_100 hl (k := 8) rfl rfl (by decide) rfl (fun ls hl => ?_)
  exact tX0_shelveEndsAt_103 hC0 hK hA hQ hr28 _ _ _ _ _ _ _ _ _ _ _ _ hP hD hS ls (lv_sub hl [3, 4, 5, 6, 7, 8, 2, 1, 0, 9, 10, 11, 12] rfl) h
set_option maxHeartbeats 4000000 in
set_option maxRecDepth 100000 in
theorem tX0_shelveEndsAt_28 {p : Program} {l : Launch} {e : Env} {s : State} {m : MethodId} {args : Array Value} {below : List Frame} {meth : Method} {c : Code} {dC : Nat → ClassId} {dI : Nat → Nat → Nat} {ad : Nat → Nat} {cA : Nat → ClassId} {nW : Nat} {nH : Nat} {ff : Int32} {fd : Int32} {cols : Nat → Int64} {rows : Nat → Int64} {tails : Nat → Int32} {longer : Nat → Int32} {a1 : Int32} {a2 : Int32} {a3 : Int64} {a5 : Int32} {a6 : Int32} {Post : (Nat → Int64) → (Nat → Int32) → (Nat → Int32) → Prop} (hC : zC p s m args meth c cX0_shelveEndsAt wsX0_shelveEndsAt none 22 RX0) (hK : va_K (dC, dI) vwCl (tX0 cA) s) {A : Nat → Prop} (hA : ∀ q, s.heap.size ≤ q → A q) {Qc : Array Value → State → Outcome → State → Prop} (hQ : ∀ (ends : Nat → Int64) (ecost : Nat → Int32) (ecnt : Nat → Int32) (H : Heap) (locs : List Loc), va_P (dC, dI) vwCl (wX0 ad cA nW nH ff fd cols rows ends ecost ecnt tails longer) H → va_D A (wX0 ad cA nW nH ff fd cols rows ends ecost ecnt tails longer) → va_S A s.heap H locs → Post ends ecost ecnt → ∀ t : State, t.heap = H → s.WarmedH t.vm → Qc args s (.returned none) t) : ∀ (n : Nat), ∀ (x7 : Int32) (x8 : Int32) (x9 : Int32) (x10 : Int64) (x12 : Int64) (x14 : Int64) (x16 : Int32) (ends : Nat → Int64) (ecost : Nat → Int32) (ecnt : Nat → Int32) (H : Heap) (locs : List Loc), va_P (dC, dI) vwCl (wX0 ad cA nW nH ff fd cols rows ends ecost ecnt tails longer) H → va_D A (wX0 ad cA nW nH ff fd cols rows ends ecost ecnt tails longer) → va_S A s.heap H locs → ∀ (ls : Array Slot), lv_has ls 22 [(0, .ref (ad 0)), (1, .int a1), (2, .int a2), (3, .long a3), (5, .int a5), (6, .int a6), (7, .int x7), (8, .int x8), (9, .int x9), (10, .long x10), (12, .long x12), (14, .long x14), (16, .int x16)] → lX0_shelveEndsAt_28 nW cols a1 a2 a3 a5 a6 Post n x7 x8 x9 x10 x12 x14 x16 ends ecost ecnt → W p l e ({ frames := 3, cells := 0, slots := 0, locals := 79 } : Room) s m args below meth c H locs 0 0 (MQ below Qc args s 0 0 A) (F0 m 28 ls []) := by
  have hC0 := hC
  obtain ⟨hx, hb, hr, hml, hown, hts, hlocks⟩ := hC
  intro n
  induction n with
  | zero =>
    intro x7 x8 x9 x10 x12 x14 x16 ends ecost ecnt H locs hP hD hS ls hl h
    exact h.elim
  | succ n hr28 =>
    intro x7 x8 x9 x10 x12 x14 x16 ends ecost ecnt H locs hP hD hS ls hl h
    have h : bX0_shelveEndsAt_28 nW cols a1 a2 a3 a5 a6 Post (lX0_shelveEndsAt_28 nW cols a1 a2 a3 a5 a6 Post n) x7 x8 x9 x10 x12 x14 x16 ends ecost ecnt := h
    unfold bX0_shelveEndsAt_28 at h
    refine lv_iload hx hb dX0_shelveEndsAt_28 (lv_at hl 12 rfl) ?_
    refine lv_iload_n hx hb dX0_shelveEndsAt_30 rfl (lv_at hl 2 rfl) ?_
    refine lv_icmp_ge (tgt := 190) hx hb dX0_shelveEndsAt_31 (by decide) (fun c => ?_) (fun c => ?_)
    · have h := h.1 c
      exact W.vret hx hb hr (hQ _ _ _ _ _ hP hD hS h) hS.2.2 dX0_shelveEndsAt_190
    · have h := h.2 c
      refine lv_aload_n hx hb dX0_shelveEndsAt_34 rfl (lv_at hl 0 rfl) ?_
      refine va_get (D := (dC, dI)) (ci := 1) (v := .ref (ad 1)) (C := RX0) (T := TX0) (N := 11) hx hb hts in_X0_shelveEndsAt hown hK hP 0 rfl rfl 2 (by decide) (hts (.fieldLink RX0 25 "SignCutter" "columns" "[J") (by decide +kernel)) (fun _ h9 => h9) rfl dX0_shelveEndsAt_35 ?_
      refine lv_iload hx hb dX0_shelveEndsAt_38 (lv_at hl 12 rfl) ?_
      refine z_lald hx hb hK hP 1 0 rfl rfl h dX0_shelveEndsAt_40 (fun j_2 h => ?_)
      refine lv_topl (fun x17_3 ex17_3 => ?_)
      have h := h x17_3 ex17_3
      refine lv_lstore (lv' := [(17, .long x17_3), (0, .ref (ad 0)), (1, .int a1), (2, .int a2), (3, .long a3), (5, .int a5), (6, .int a6), (7, .int x7), (8, .int x8), (9, .int x9), (10, .long x10), (12, .long x12), (14, .long x14), (16, .int x16)]) hx hb dX0_shelveEndsAt_41 hl (by decide) rfl (fun ls hl => ?_)
      refine lv_lload hx hb dX0_shelveEndsAt_43 (lv_at hl 12 rfl) ?_
      refine lv_lload hx hb dX0_shelveEndsAt_45 (lv_at hl 11 rfl) ?_
      refine lv_lload hx hb dX0_shelveEndsAt_47 (lv_at hl 0 rfl) ?_
      refine lv_land hx hb dX0_shelveEndsAt_49 ?_
      refine lv_lor hx hb dX0_shelveEndsAt_50 ?_
      refine lv_topl (fun x14_4 ex14_4 => ?_)
      have h := h x14_4 ex14_4
      refine lv_lstore (lv' := [(14, .long x14_4), (17, .long x17_3), (0, .ref (ad 0)), (1, .int a1), (2, .int a2), (3, .long a3), (5, .int a5), (6, .int a6), (7, .int x7), (8, .int x8), (9, .int x9), (10, .long x10), (12, .long x12), (16, .int x16)]) hx hb dX0_shelveEndsAt_51 hl (by decide) rfl (fun ls hl => ?_)
      refine lv_lload hx hb dX0_shelveEndsAt_53 (lv_at hl 12 rfl) ?_
      refine lv_lload hx hb dX0_shelveEndsAt_55 (lv_at hl 11 rfl) ?_
      refine lv_lload hx hb dX0_shelveEndsAt_57 (lv_at hl 1 rfl) ?_
      refine lv_ldc2 hx hb hown (hts (.constantLong RX0 55 (-1)) (by decide +kernel)) dX0_shelveEndsAt_59 ?_
      refine lv_lxor hx hb dX0_shelveEndsAt_62 ?_
      refine lv_land hx hb dX0_shelveEndsAt_63 ?_
      refine lv_lor hx hb dX0_shelveEndsAt_64 ?_
      refine lv_topl (fun x12_5 ex12_5 => ?_)
      have h := h x12_5 ex12_5
      refine lv_lstore (lv' := [(12, .long x12_5), (14, .long x14_4), (17, .long x17_3), (0, .ref (ad 0)), (1, .int a1), (2, .int a2), (3, .long a3), (5, .int a5), (6, .int a6), (7, .int x7), (8, .int x8), (9, .int x9), (10, .long x10), (16, .int x16)]) hx hb dX0_shelveEndsAt_65 hl (by decide) rfl (fun ls hl => ?_)
      refine lv_lload hx hb dX0_shelveEndsAt_67 (lv_at hl 12 rfl) ?_
      refine lv_lload hx hb dX0_shelveEndsAt_69 (lv_at hl 2 rfl) ?_
      refine lv_lor hx hb dX0_shelveEndsAt_71 ?_
      refine lv_topl (fun x10_6 ex10_6 => ?_)
      have h := h x10_6 ex10_6
      refine lv_lstore (lv' := [(10, .long x10_6), (12, .long x12_5), (14, .long x14_4), (17, .long x17_3), (0, .ref (ad 0)), (1, .int a1), (2, .int a2), (3, .long a3), (5, .int a5), (6, .int a6), (7, .int x7), (8, .int x8), (9, .int x9), (16, .int x16)]) hx hb dX0_shelveEndsAt_72 hl (by decide) rfl (fun ls hl => ?_)
      refine lv_lload hx hb dX0_shelveEndsAt_74 (lv_at hl 3 rfl) ?_
      refine lv_lconst (v := 0) hx hb dX0_shelveEndsAt_76 (by decide) ?_
      refine W.lcmp hx hb dX0_shelveEndsAt_77 ?_
      refine lv_if_eq (tgt := 103) hx hb dX0_shelveEndsAt_78 (by decide) (fun c => ?_) (fun c => ?_)
      · have h := h.1 c
        exact tX0_shelveEndsAt_103 hC0 hK hA hQ hr28 _ _ _ _ _ _ _ _ _ _ _ _ hP hD hS ls (lv_sub hl [4, 5, 6, 7, 8, 9, 10, 11, 12, 0, 1, 2, 13] rfl) h
      · have h := h.2 c
        refine lv_iload hx hb dX0_shelveEndsAt_81 (lv_at hl 10 rfl) ?_
        refine lv_iconst (v := (-1)) hx hb dX0_shelveEndsAt_83 (by decide) ?_
        refine lv_icmp_ne (tgt := 92) hx hb dX0_shelveEndsAt_84 (by decide) (fun c => ?_) (fun c => ?_)
        · have h := h.2 c
          refine lv_iload hx hb dX0_shelveEndsAt_92 (lv_at hl 10 rfl) ?_
          exact tX0_shelveEndsAt_94 hC0 hK hA hQ hr28 _ _ _ _ _ _ _ _ _ _ _ hP hD hS ls (lv_sub hl [4, 5, 6, 7, 8, 9, 12, 0, 1, 2, 13] rfl) h
        · have h := h.1 c
          refine lv_iload hx hb dX0_shelveEndsAt_87 (lv_at hl 13 rfl) ?_
          refine lv_goto (tgt := 94) hx hb dX0_shelveEndsAt_89 (by decide) ?_
          exact tX0_shelveEndsAt_94 hC0 hK hA hQ hr28 _ _ _ _ _ _ _ _ _ _ _ hP hD hS ls (lv_sub hl [4, 5, 6, 7, 8, 9, 12, 0, 1, 2, 13] rfl) h
set_option maxHeartbeats 4000000 in
set_option maxRecDepth 100000 in
theorem mX0_shelveEndsAt (l : Launch) {dC : Nat → ClassId} {dI : Nat → Nat → Nat} {ad : Nat → Nat} {cA : Nat → ClassId} {nW : Nat} {nH : Nat} {ff : Int32} {fd : Int32} {cols : Nat → Int64} {rows : Nat → Int64} {ends : Nat → Int64} {ecost : Nat → Int32} {ecnt : Nat → Int32} {tails : Nat → Int32} {longer : Nat → Int32} {sz : Nat} {a1 : Int32} {a2 : Int32} {a3 : Int64} {a5 : Int32} {a6 : Int32} {Post : (Nat → Int64) → (Nat → Int32) → (Nat → Int32) → Prop} (h : wX0_shelveEndsAt nW cols ends ecost ecnt a1 a2 a3 a5 a6 Post) : Met l yX0_shelveEndsAt wsX0_shelveEndsAt ({ frames := 3, cells := 0, slots := 0, locals := 79 } : Room) (zPw (dC, dI) vwCl (tX0 cA) (wX0 ad cA nW nH ff fd cols rows ends ecost ecnt tails longer) sz [.ref (ad 0), .int a1, .int a2, .long a3, .int a5, .int a6]) (va_Qv (S := (Nat → Int64) × (Nat → Int32) × (Nat → Int32)) (fun (u : (Nat → Int64) × (Nat → Int32) × (Nat → Int32)) => Post u.1 u.2.1 u.2.2) (zB (dC, dI) vwCl (tX0 cA) (wX0 ad cA nW nH ff fd cols rows ends ecost ecnt tails longer) sz (fun u : (Nat → Int64) × (Nat → Int32) × (Nat → Int32) => wX0 ad cA nW nH ff fd cols rows u.1 u.2.1 u.2.2 tails longer)) (va_A (wX0 ad cA nW nH ff fd cols rows ends ecost ecnt tails longer) sz)) 0 0 (va_A (wX0 ad cA nW nH ff fd cols rows ends ecost ecnt tails longer) sz) := by
  refine Met.ofW (cc := cX0_shelveEndsAt) (maxL := 22) (ret := none) (by decide) rfl ?_
  intro p e s m args below meth c s₁ B hml hv
  obtain ⟨rfl, hsz, hP, hK, hD0⟩ := hv
  have hC : zC p s m [.ref (ad 0), .int a1, .int a2, .long a3, .int a5, .int a6].toArray meth c cX0_shelveEndsAt wsX0_shelveEndsAt none 22 RX0 := ⟨B.exec, B.bytes, B.returns, hml, findClass_of_methodNamed B.named, atoms_spec (ws := wsX0_shelveEndsAt) B.pre, B.notSynchronized⟩
  have hC0 := hC
  obtain ⟨hx, hb, hr, hml, hown, hts, hlocks⟩ := hC
  subst hsz
  have hD := hD0.self (sz := s.heap.size)
  have hA : ∀ q : Nat, s.heap.size ≤ q → va_A (wX0 ad cA nW nH ff fd cols rows ends ecost ecnt tails longer) s.heap.size q := fun q h => Or.inr h
  have hS : va_S (va_A (wX0 ad cA nW nH ff fd cols rows ends ecost ecnt tails longer) s.heap.size) s.heap s.heap [] := va_S.rf
  generalize hQe : (va_Qv (S := (Nat → Int64) × (Nat → Int32) × (Nat → Int32)) (fun (u : (Nat → Int64) × (Nat → Int32) × (Nat → Int32)) => Post u.1 u.2.1 u.2.2) (zB (dC, dI) vwCl (tX0 cA) (wX0 ad cA nW nH ff fd cols rows ends ecost ecnt tails longer) s.heap.size (fun u : (Nat → Int64) × (Nat → Int32) × (Nat → Int32) => wX0 ad cA nW nH ff fd cols rows u.1 u.2.1 u.2.2 tails longer)) (va_A (wX0 ad cA nW nH ff fd cols rows ends ecost ecnt tails longer) s.heap.size)) = Qc
  generalize hAe : va_A (wX0 ad cA nW nH ff fd cols rows ends ecost ecnt tails longer) s.heap.size = A at hD hA hS hQe ⊢
  have hQ : ∀ (ends : Nat → Int64) (ecost : Nat → Int32) (ecnt : Nat → Int32) (H : Heap) (locs : List Loc), va_P (dC, dI) vwCl (wX0 ad cA nW nH ff fd cols rows ends ecost ecnt tails longer) H → va_D A (wX0 ad cA nW nH ff fd cols rows ends ecost ecnt tails longer) → va_S A s.heap H locs → Post ends ecost ecnt → ∀ t : State, t.heap = H → s.WarmedH t.vm → Qc [.ref (ad 0), .int a1, .int a2, .long a3, .int a5, .int a6].toArray s (.returned none) t := by
    intro ends ecost ecnt H locs hP hD hS h t ht hW
    rw [← hQe]
    exact ⟨⟨(ends, ecost, ecnt), rfl, h, by rw [ht]; exact hP, va_K.moved hW.alike hK, hAe ▸ hD⟩, hS.F ht⟩
  clear hQe hAe
  have hl := lv_entry ([.ref (ad 0), .int a1, .int a2, .long a3, .int a5, .int a6]) (n := 22) (Nat.le_of_ble_eq_true rfl)
  rw [lg_entry_eq]
  generalize (lg_sl ([.ref (ad 0), .int a1, .int a2, .long a3, .int a5, .int a6]) ++ List.replicate (22 - (lg_sl ([.ref (ad 0), .int a1, .int a2, .long a3, .int a5, .int a6])).length) Slot.unset).toArray = ls at hl ⊢
  have hl : lv_has ls 22 [(0, .ref (ad 0)), (1, .int a1), (2, .int a2), (3, .long a3), (5, .int a5), (6, .int a6)] := hl
  show W p l e ({ frames := 3, cells := 0, slots := 0, locals := 79 } : Room) s m _ below meth c s.heap [] 0 0 (MQ below Qc _ s 0 0 A) (F0 m 0 ls [])
  unfold wX0_shelveEndsAt at h
  refine lv_aload_n hx hb dX0_shelveEndsAt_0 rfl (lv_at hl 0 rfl) ?_
  refine va_get (D := (dC, dI)) (ci := 1) (v := .ref (ad 5)) (C := RX0) (T := TX0) (N := 11) hx hb hts in_X0_shelveEndsAt hown hK hP 0 rfl rfl 6 (by decide) (hts (.fieldLink RX0 39 "SignCutter" "endCounts" "[I") (by decide +kernel)) (fun _ h9 => h9) rfl dX0_shelveEndsAt_1 ?_
  refine lv_iload_n hx hb dX0_shelveEndsAt_4 rfl (lv_at hl 1 rfl) ?_
  refine lv_iconst (v := 0) hx hb dX0_shelveEndsAt_5 (by decide) ?_
  refine z_iast hx hb hK hP hD hS 5 4 rfl rfl h dX0_shelveEndsAt_6 (fun j_1 H locs h hP hD hS => ?_)
  have hP : va_P (dC, dI) vwCl (wX0 ad cA nW nH ff fd cols rows ends ecost (upd ecnt j_1 0) tails longer) H := hP
  have hD : va_D A (wX0 ad cA nW nH ff fd cols rows ends ecost (upd ecnt j_1 0) tails longer) := hD
  refine lv_iconst (v := (-1)) hx hb dX0_shelveEndsAt_7 (by decide) ?_
  refine lv_istore (lv' := [(7, .int (-1)), (0, .ref (ad 0)), (1, .int a1), (2, .int a2), (3, .long a3), (5, .int a5), (6, .int a6)]) hx hb dX0_shelveEndsAt_8 hl (by decide) rfl (fun ls hl => ?_)
  refine lv_iconst (v := (-1)) hx hb dX0_shelveEndsAt_10 (by decide) ?_
  refine lv_istore (lv' := [(8, .int (-1)), (7, .int (-1)), (0, .ref (ad 0)), (1, .int a1), (2, .int a2), (3, .long a3), (5, .int a5), (6, .int a6)]) hx hb dX0_shelveEndsAt_11 hl (by decide) rfl (fun ls hl => ?_)
  refine lv_iconst (v := 0) hx hb dX0_shelveEndsAt_13 (by decide) ?_
  refine lv_istore (lv' := [(9, .int 0), (8, .int (-1)), (7, .int (-1)), (0, .ref (ad 0)), (1, .int a1), (2, .int a2), (3, .long a3), (5, .int a5), (6, .int a6)]) hx hb dX0_shelveEndsAt_14 hl (by decide) rfl (fun ls hl => ?_)
  refine lv_lconst (v := 0) hx hb dX0_shelveEndsAt_16 (by decide) ?_
  refine lv_lstore (lv' := [(10, .long 0), (9, .int 0), (8, .int (-1)), (7, .int (-1)), (0, .ref (ad 0)), (1, .int a1), (2, .int a2), (3, .long a3), (5, .int a5), (6, .int a6)]) hx hb dX0_shelveEndsAt_17 hl (by decide) rfl (fun ls hl => ?_)
  refine lv_lconst (v := 0) hx hb dX0_shelveEndsAt_19 (by decide) ?_
  refine lv_lstore (lv' := [(12, .long 0), (10, .long 0), (9, .int 0), (8, .int (-1)), (7, .int (-1)), (0, .ref (ad 0)), (1, .int a1), (2, .int a2), (3, .long a3), (5, .int a5), (6, .int a6)]) hx hb dX0_shelveEndsAt_20 hl (by decide) rfl (fun ls hl => ?_)
  refine lv_lconst (v := 0) hx hb dX0_shelveEndsAt_22 (by decide) ?_
  refine lv_lstore (lv' := [(14, .long 0), (12, .long 0), (10, .long 0), (9, .int 0), (8, .int (-1)), (7, .int (-1)), (0, .ref (ad 0)), (1, .int a1), (2, .int a2), (3, .long a3), (5, .int a5), (6, .int a6)]) hx hb dX0_shelveEndsAt_23 hl (by decide) rfl (fun ls hl => ?_)
  refine lv_iload_n hx hb dX0_shelveEndsAt_25 rfl (lv_at hl 7 rfl) ?_
  refine lv_istore (lv' := [(16, .int a1), (14, .long 0), (12, .long 0), (10, .long 0), (9, .int 0), (8, .int (-1)), (7, .int (-1)), (0, .ref (ad 0)), (1, .int a1), (2, .int a2), (3, .long a3), (5, .int a5), (6, .int a6)]) hx hb dX0_shelveEndsAt_26 hl (by decide) rfl (fun ls hl => ?_)
  obtain ⟨n_23, h⟩ := h
  exact tX0_shelveEndsAt_28 hC0 hK hA hQ n_23 _ _ _ _ _ _ _ _ _ _ _ _ hP hD hS ls (lv_sub hl [7, 8, 9, 10, 11, 12, 6, 5, 4, 3, 2, 1, 0] rfl) h
theorem in_X0_shelveEnds : ∀ w ∈ wsX00, w ∈ wsX0_shelveEnds := by decide +kernel
set_option maxHeartbeats 4000000 in
set_option maxRecDepth 100000 in
theorem tX0_shelveEnds_27 {p : Program} {l : Launch} {e : Env} {s : State} {m : MethodId} {args : Array Value} {below : List Frame} {meth : Method} {c : Code} {dC : Nat → ClassId} {dI : Nat → Nat → Nat} {ad : Nat → Nat} {cA : Nat → ClassId} {nW : Nat} {nH : Nat} {ff : Int32} {fd : Int32} {cols : Nat → Int64} {rows : Nat → Int64} {tails : Nat → Int32} {longer : Nat → Int32} {a1 : Int32} {a2 : Int32} {a3 : Int32} {Post : (Nat → Int64) → (Nat → Int32) → (Nat → Int32) → Prop} (hC : zC p s m args meth c cX0_shelveEnds wsX0_shelveEnds none 10 RX0) (hK : va_K (dC, dI) vwCl (tX0 cA) s) {A : Nat → Prop} (hA : ∀ q, s.heap.size ≤ q → A q) {Qc : Array Value → State → Outcome → State → Prop} (hQ : ∀ (ends : Nat → Int64) (ecost : Nat → Int32) (ecnt : Nat → Int32) (H : Heap) (locs : List Loc), va_P (dC, dI) vwCl (wX0 ad cA nW nH ff fd cols rows ends ecost ecnt tails longer) H → va_D A (wX0 ad cA nW nH ff fd cols rows ends ecost ecnt tails longer) → va_S A s.heap H locs → Post ends ecost ecnt → ∀ t : State, t.heap = H → s.WarmedH t.vm → Qc args s (.returned none) t) : ∀ (n : Nat), ∀ (x4 : Int32) (x5 : Int64) (x7 : Int64) (x9 : Int32) (ends : Nat → Int64) (ecost : Nat → Int32) (ecnt : Nat → Int32) (H : Heap) (locs : List Loc), va_P (dC, dI) vwCl (wX0 ad cA nW nH ff fd cols rows ends ecost ecnt tails longer) H → va_D A (wX0 ad cA nW nH ff fd cols rows ends ecost ecnt tails longer) → va_S A s.heap H locs → ∀ (ls : Array Slot), lv_has ls 10 [(0, .ref (ad 0)), (1, .int a1), (2, .int a2), (3, .int a3), (4, .int x4), (5, .long x5), (7, .long x7), (9, .int x9)] → lX0_shelveEnds_27 nW nH cols rows a1 a2 a3 Post n x4 x5 x7 x9 ends ecost ecnt → W p l e ({ frames := 5, cells := 0, slots := 0, locals := 120 } : Room) s m args below meth c H locs 0 0 (MQ below Qc args s 0 0 A) (F0 m 27 ls []) := by
  have hC0 := hC
  obtain ⟨hx, hb, hr, hml, hown, hts, hlocks⟩ := hC
  intro n
  induction n with
  | zero =>
    intro x4 x5 x7 x9 ends ecost ecnt H locs hP hD hS ls hl h
    exact h.elim
  | succ n hr27 =>
    intro x4 x5 x7 x9 ends ecost ecnt H locs hP hD hS ls hl h
    have h : bX0_shelveEnds_27 nW nH cols rows a1 a2 a3 Post (lX0_shelveEnds_27 nW nH cols rows a1 a2 a3 Post n) x4 x5 x7 x9 ends ecost ecnt := h
    unfold bX0_shelveEnds_27 at h
    refine lv_iload hx hb dX0_shelveEnds_27 (lv_at hl 7 rfl) ?_
    refine lv_iload_n hx hb dX0_shelveEnds_29 rfl (lv_at hl 1 rfl) ?_
    refine lv_icmp_le (tgt := 61) hx hb dX0_shelveEnds_30 (by decide) (fun c => ?_) (fun c => ?_)
    · have h := h.1 c
      refine lv_aload_n hx hb dX0_shelveEnds_61 rfl (lv_at hl 0 rfl) ?_
      refine lv_iload_n hx hb dX0_shelveEnds_62 rfl (lv_at hl 1 rfl) ?_
      refine lv_iload_n hx hb dX0_shelveEnds_63 rfl (lv_at hl 2 rfl) ?_
      refine lv_lload hx hb dX0_shelveEnds_64 (lv_at hl 6 rfl) ?_
      refine lv_iload hx hb dX0_shelveEnds_66 (lv_at hl 4 rfl) ?_
      refine lv_iload_n hx hb dX0_shelveEnds_68 rfl (lv_at hl 3 rfl) ?_
      refine z_cVv (ci := 1) (As := [.int a1, .int a2, .long x7, .int x4, .int a3]) (rest := []) ⟨hx, hb, hml, hown, hts⟩ (mX0_shelveEndsAt l h) (cwV 5 hts gX0_shelveEnds_X0_shelveEndsAt rfl rfl rfl (by decide +kernel) ⟨Nat.le_of_ble_eq_true rfl, Nat.le_of_ble_eq_true rfl⟩) hK hP hD hS hA 0 rfl rfl rfl rfl hl.1 rfl (Nat.le_of_ble_eq_true rfl) dX0_shelveEnds_69 ⟨Nat.le_of_ble_eq_true rfl, Nat.le_of_ble_eq_true rfl⟩ (fun u_5 H locs h hP hD hS => ?_)
      revert h hP hD
      generalize u_5.1 = ends_7
      generalize u_5.2.1 = ecost_8
      generalize u_5.2.2 = ecnt_9
      intro h hP hD
      have hP : va_P (dC, dI) vwCl (wX0 ad cA nW nH ff fd cols rows ends_7 ecost_8 ecnt_9 tails longer) H := hP
      have hD : va_D A (wX0 ad cA nW nH ff fd cols rows ends_7 ecost_8 ecnt_9 tails longer) := hD
      exact W.vret hx hb hr (hQ _ _ _ _ _ hP hD hS h) hS.2.2 dX0_shelveEnds_72
    · have h := h.2 c
      refine lv_lload hx hb dX0_shelveEnds_33 (lv_at hl 5 rfl) ?_
      refine lv_iload hx hb dX0_shelveEnds_35 (lv_at hl 7 rfl) ?_
      refine z_cSi (As := [.long x5, .int x9]) (rest := []) ⟨hx, hb, hml, hown, hts⟩ (mX0_has l h) (va_cwS 2 hts gX0_shelveEnds_X0_has rfl rfl rfl (by decide +kernel) ⟨Nat.le_of_ble_eq_true rfl, Nat.le_of_ble_eq_true rfl⟩) rfl hl.1 rfl (Nat.le_of_ble_eq_true rfl) dX0_shelveEnds_37 ⟨Nat.le_of_ble_eq_true rfl, Nat.le_of_ble_eq_true rfl⟩ (fun r_10 h => ?_)
      refine lv_if_eq (tgt := 55) hx hb dX0_shelveEnds_40 (by decide) (fun c => ?_) (fun c => ?_)
      · have h := h.1 c
        refine lv_iinc (v := (x9 + (-1))) (lv' := [(9, .int (x9 + (-1))), (0, .ref (ad 0)), (1, .int a1), (2, .int a2), (3, .int a3), (4, .int x4), (5, .long x5), (7, .long x7)]) hx hb dX0_shelveEnds_55 hl (k := 7) rfl rfl (by decide) rfl (fun ls hl => ?_)
        refine lv_goto (tgt := 27) hx hb dX0_shelveEnds_58 (by decide) ?_
        exact hr27 _ _ _ _ _ _ _ _ _ hP hD hS ls (lv_sub hl [1, 2, 3, 4, 5, 6, 7, 0] rfl) h
      · have h := h.2 c
        refine lv_aload_n hx hb dX0_shelveEnds_43 rfl (lv_at hl 0 rfl) ?_
        refine lv_iload hx hb dX0_shelveEnds_44 (lv_at hl 7 rfl) ?_
        refine lv_iload_n hx hb dX0_shelveEnds_46 rfl (lv_at hl 2 rfl) ?_
        refine lv_lload hx hb dX0_shelveEnds_47 (lv_at hl 6 rfl) ?_
        refine lv_iload hx hb dX0_shelveEnds_49 (lv_at hl 4 rfl) ?_
        refine lv_iload_n hx hb dX0_shelveEnds_51 rfl (lv_at hl 3 rfl) ?_
        refine z_cVv (ci := 1) (As := [.int x9, .int a2, .long x7, .int x4, .int a3]) (rest := []) ⟨hx, hb, hml, hown, hts⟩ (mX0_shelveEndsAt l h) (cwV 5 hts gX0_shelveEnds_X0_shelveEndsAt rfl rfl rfl (by decide +kernel) ⟨Nat.le_of_ble_eq_true rfl, Nat.le_of_ble_eq_true rfl⟩) hK hP hD hS hA 0 rfl rfl rfl rfl hl.1 rfl (Nat.le_of_ble_eq_true rfl) dX0_shelveEnds_52 ⟨Nat.le_of_ble_eq_true rfl, Nat.le_of_ble_eq_true rfl⟩ (fun u_11 H locs h hP hD hS => ?_)
        revert h hP hD
        generalize u_11.1 = ends_13
        generalize u_11.2.1 = ecost_14
        generalize u_11.2.2 = ecnt_15
        intro h hP hD
        have hP : va_P (dC, dI) vwCl (wX0 ad cA nW nH ff fd cols rows ends_13 ecost_14 ecnt_15 tails longer) H := hP
        have hD : va_D A (wX0 ad cA nW nH ff fd cols rows ends_13 ecost_14 ecnt_15 tails longer) := hD
        refine lv_iinc (v := (x9 + (-1))) (lv' := [(9, .int (x9 + (-1))), (0, .ref (ad 0)), (1, .int a1), (2, .int a2), (3, .int a3), (4, .int x4), (5, .long x5), (7, .long x7)]) hx hb dX0_shelveEnds_55 hl (k := 7) rfl rfl (by decide) rfl (fun ls hl => ?_)
        refine lv_goto (tgt := 27) hx hb dX0_shelveEnds_58 (by decide) ?_
        exact hr27 _ _ _ _ _ _ _ _ _ hP hD hS ls (lv_sub hl [1, 2, 3, 4, 5, 6, 7, 0] rfl) h
set_option maxHeartbeats 4000000 in
set_option maxRecDepth 100000 in
theorem mX0_shelveEnds (l : Launch) {dC : Nat → ClassId} {dI : Nat → Nat → Nat} {ad : Nat → Nat} {cA : Nat → ClassId} {nW : Nat} {nH : Nat} {ff : Int32} {fd : Int32} {cols : Nat → Int64} {rows : Nat → Int64} {ends : Nat → Int64} {ecost : Nat → Int32} {ecnt : Nat → Int32} {tails : Nat → Int32} {longer : Nat → Int32} {sz : Nat} {a1 : Int32} {a2 : Int32} {a3 : Int32} {Post : (Nat → Int64) → (Nat → Int32) → (Nat → Int32) → Prop} (h : wX0_shelveEnds nW nH cols rows ends ecost ecnt a1 a2 a3 Post) : Met l yX0_shelveEnds wsX0_shelveEnds ({ frames := 5, cells := 0, slots := 0, locals := 120 } : Room) (zPw (dC, dI) vwCl (tX0 cA) (wX0 ad cA nW nH ff fd cols rows ends ecost ecnt tails longer) sz [.ref (ad 0), .int a1, .int a2, .int a3]) (va_Qv (S := (Nat → Int64) × (Nat → Int32) × (Nat → Int32)) (fun (u : (Nat → Int64) × (Nat → Int32) × (Nat → Int32)) => Post u.1 u.2.1 u.2.2) (zB (dC, dI) vwCl (tX0 cA) (wX0 ad cA nW nH ff fd cols rows ends ecost ecnt tails longer) sz (fun u : (Nat → Int64) × (Nat → Int32) × (Nat → Int32) => wX0 ad cA nW nH ff fd cols rows u.1 u.2.1 u.2.2 tails longer)) (va_A (wX0 ad cA nW nH ff fd cols rows ends ecost ecnt tails longer) sz)) 0 0 (va_A (wX0 ad cA nW nH ff fd cols rows ends ecost ecnt tails longer) sz) := by
  refine Met.ofW (cc := cX0_shelveEnds) (maxL := 10) (ret := none) (by decide) rfl ?_
  intro p e s m args below meth c s₁ B hml hv
  obtain ⟨rfl, hsz, hP, hK, hD0⟩ := hv
  have hC : zC p s m [.ref (ad 0), .int a1, .int a2, .int a3].toArray meth c cX0_shelveEnds wsX0_shelveEnds none 10 RX0 := ⟨B.exec, B.bytes, B.returns, hml, findClass_of_methodNamed B.named, atoms_spec (ws := wsX0_shelveEnds) B.pre, B.notSynchronized⟩
  have hC0 := hC
  obtain ⟨hx, hb, hr, hml, hown, hts, hlocks⟩ := hC
  subst hsz
  have hD := hD0.self (sz := s.heap.size)
  have hA : ∀ q : Nat, s.heap.size ≤ q → va_A (wX0 ad cA nW nH ff fd cols rows ends ecost ecnt tails longer) s.heap.size q := fun q h => Or.inr h
  have hS : va_S (va_A (wX0 ad cA nW nH ff fd cols rows ends ecost ecnt tails longer) s.heap.size) s.heap s.heap [] := va_S.rf
  generalize hQe : (va_Qv (S := (Nat → Int64) × (Nat → Int32) × (Nat → Int32)) (fun (u : (Nat → Int64) × (Nat → Int32) × (Nat → Int32)) => Post u.1 u.2.1 u.2.2) (zB (dC, dI) vwCl (tX0 cA) (wX0 ad cA nW nH ff fd cols rows ends ecost ecnt tails longer) s.heap.size (fun u : (Nat → Int64) × (Nat → Int32) × (Nat → Int32) => wX0 ad cA nW nH ff fd cols rows u.1 u.2.1 u.2.2 tails longer)) (va_A (wX0 ad cA nW nH ff fd cols rows ends ecost ecnt tails longer) s.heap.size)) = Qc
  generalize hAe : va_A (wX0 ad cA nW nH ff fd cols rows ends ecost ecnt tails longer) s.heap.size = A at hD hA hS hQe ⊢
  have hQ : ∀ (ends : Nat → Int64) (ecost : Nat → Int32) (ecnt : Nat → Int32) (H : Heap) (locs : List Loc), va_P (dC, dI) vwCl (wX0 ad cA nW nH ff fd cols rows ends ecost ecnt tails longer) H → va_D A (wX0 ad cA nW nH ff fd cols rows ends ecost ecnt tails longer) → va_S A s.heap H locs → Post ends ecost ecnt → ∀ t : State, t.heap = H → s.WarmedH t.vm → Qc [.ref (ad 0), .int a1, .int a2, .int a3].toArray s (.returned none) t := by
    intro ends ecost ecnt H locs hP hD hS h t ht hW
    rw [← hQe]
    exact ⟨⟨(ends, ecost, ecnt), rfl, h, by rw [ht]; exact hP, va_K.moved hW.alike hK, hAe ▸ hD⟩, hS.F ht⟩
  clear hQe hAe
  have hl := lv_entry ([.ref (ad 0), .int a1, .int a2, .int a3]) (n := 10) (Nat.le_of_ble_eq_true rfl)
  rw [lg_entry_eq]
  generalize (lg_sl ([.ref (ad 0), .int a1, .int a2, .int a3]) ++ List.replicate (10 - (lg_sl ([.ref (ad 0), .int a1, .int a2, .int a3])).length) Slot.unset).toArray = ls at hl ⊢
  have hl : lv_has ls 10 [(0, .ref (ad 0)), (1, .int a1), (2, .int a2), (3, .int a3)] := hl
  show W p l e ({ frames := 5, cells := 0, slots := 0, locals := 120 } : Room) s m _ below meth c s.heap [] 0 0 (MQ below Qc _ s 0 0 A) (F0 m 0 ls [])
  unfold wX0_shelveEnds at h
  refine lv_aload_n hx hb dX0_shelveEnds_0 rfl (lv_at hl 0 rfl) ?_
  refine z_cVi (ci := 1) (As := []) (rest := []) ⟨hx, hb, hml, hown, hts⟩ (mX0_dueWidth l h) (cwV 0 hts gX0_shelveEnds_X0_dueWidth rfl rfl rfl (by decide +kernel) ⟨Nat.le_of_ble_eq_true rfl, Nat.le_of_ble_eq_true rfl⟩) hK hP 0 rfl rfl rfl rfl hl.1 rfl (Nat.le_of_ble_eq_true rfl) dX0_shelveEnds_1 ⟨Nat.le_of_ble_eq_true rfl, Nat.le_of_ble_eq_true rfl⟩ (fun r_1 h => ?_)
  refine lv_istore (lv' := [(4, .int r_1), (0, .ref (ad 0)), (1, .int a1), (2, .int a2), (3, .int a3)]) hx hb dX0_shelveEnds_4 hl (by decide) rfl (fun ls hl => ?_)
  refine lv_aload_n hx hb dX0_shelveEnds_6 rfl (lv_at hl 1 rfl) ?_
  refine lv_iload_n hx hb dX0_shelveEnds_7 rfl (lv_at hl 2 rfl) ?_
  refine lv_iload_n hx hb dX0_shelveEnds_8 rfl (lv_at hl 3 rfl) ?_
  refine z_cVl (ci := 1) (As := [.int a1, .int a2]) (rest := []) ⟨hx, hb, hml, hown, hts⟩ (mX0_placesToCut l h) (cwV 2 hts gX0_shelveEnds_X0_placesToCut rfl rfl rfl (by decide +kernel) ⟨Nat.le_of_ble_eq_true rfl, Nat.le_of_ble_eq_true rfl⟩) hK hP 0 rfl rfl rfl rfl hl.1 rfl (Nat.le_of_ble_eq_true rfl) dX0_shelveEnds_9 ⟨Nat.le_of_ble_eq_true rfl, Nat.le_of_ble_eq_true rfl⟩ (fun r_2 h => ?_)
  refine lv_lstore (lv' := [(5, .long r_2), (4, .int r_1), (0, .ref (ad 0)), (1, .int a1), (2, .int a2), (3, .int a3)]) hx hb dX0_shelveEnds_12 hl (by decide) rfl (fun ls hl => ?_)
  refine lv_lload hx hb dX0_shelveEnds_14 (lv_at hl 0 rfl) ?_
  refine lv_lconst (v := 1) hx hb dX0_shelveEnds_16 (by decide) ?_
  refine lv_iload_n hx hb dX0_shelveEnds_17 rfl (lv_at hl 4 rfl) ?_
  refine lv_lshl (v := (zShl 1 a2)) hx hb dX0_shelveEnds_18 rfl ?_
  refine lv_lor hx hb dX0_shelveEnds_19 ?_
  refine lv_topl (fun x7_3 ex7_3 => ?_)
  have h := h x7_3 ex7_3
  refine lv_lstore (lv' := [(7, .long x7_3), (5, .long r_2), (4, .int r_1), (0, .ref (ad 0)), (1, .int a1), (2, .int a2), (3, .int a3)]) hx hb dX0_shelveEnds_20 hl (by decide) rfl (fun ls hl => ?_)
  refine lv_iload_n hx hb dX0_shelveEnds_22 rfl (lv_at hl 5 rfl) ?_
  refine lv_iconst (v := 1) hx hb dX0_shelveEnds_23 (by decide) ?_
  refine lv_isub hx hb dX0_shelveEnds_24 ?_
  refine lv_topi (fun x9_4 ex9_4 => ?_)
  have h := h x9_4 ex9_4
  refine lv_istore (lv' := [(9, .int x9_4), (7, .long x7_3), (5, .long r_2), (4, .int r_1), (0, .ref (ad 0)), (1, .int a1), (2, .int a2), (3, .int a3)]) hx hb dX0_shelveEnds_25 hl (by decide) rfl (fun ls hl => ?_)
  obtain ⟨n_16, h⟩ := h
  exact tX0_shelveEnds_27 hC0 hK hA hQ n_16 _ _ _ _ _ _ _ _ _ hP hD hS ls (lv_sub hl [4, 5, 6, 7, 3, 2, 1, 0] rfl) h
theorem in_X0_cut : ∀ w ∈ wsX00, w ∈ wsX0_cut := by decide +kernel
set_option maxHeartbeats 4000000 in
set_option maxRecDepth 100000 in
theorem mX0_cut (l : Launch) {dC : Nat → ClassId} {dI : Nat → Nat → Nat} {ad : Nat → Nat} {cA : Nat → ClassId} {nW : Nat} {nH : Nat} {ff : Int32} {fd : Int32} {cols : Nat → Int64} {rows : Nat → Int64} {ends : Nat → Int64} {ecost : Nat → Int32} {ecnt : Nat → Int32} {tails : Nat → Int32} {longer : Nat → Int32} {sz : Nat} {a1 : Int32} {Post : Int32 → (Int32) → (Int32) → (Nat → Int64) → (Nat → Int32) → (Nat → Int32) → Prop} (h : wX0_cut nW nH cols rows ff fd ends ecost ecnt a1 Post) : Met l yX0_cut wsX0_cut ({ frames := 6, cells := 0, slots := 0, locals := 149 } : Room) (zPw (dC, dI) vwCl (tX0 cA) (wX0 ad cA nW nH ff fd cols rows ends ecost ecnt tails longer) sz [.ref (ad 0), .int a1]) (va_Qi (S := (Int32) × (Int32) × (Nat → Int64) × (Nat → Int32) × (Nat → Int32)) (fun (r : Int32) (u : (Int32) × (Int32) × (Nat → Int64) × (Nat → Int32) × (Nat → Int32)) => Post r u.1 u.2.1 u.2.2.1 u.2.2.2.1 u.2.2.2.2) (zB (dC, dI) vwCl (tX0 cA) (wX0 ad cA nW nH ff fd cols rows ends ecost ecnt tails longer) sz (fun u : (Int32) × (Int32) × (Nat → Int64) × (Nat → Int32) × (Nat → Int32) => wX0 ad cA nW nH u.1 u.2.1 cols rows u.2.2.1 u.2.2.2.1 u.2.2.2.2 tails longer)) (va_A (wX0 ad cA nW nH ff fd cols rows ends ecost ecnt tails longer) sz)) 0 0 (va_A (wX0 ad cA nW nH ff fd cols rows ends ecost ecnt tails longer) sz) := by
  refine Met.ofW (cc := cX0_cut) (maxL := 4) (ret := (some .int)) (by decide) rfl ?_
  intro p e s m args below meth c s₁ B hml hv
  obtain ⟨rfl, hsz, hP, hK, hD0⟩ := hv
  have hC : zC p s m [.ref (ad 0), .int a1].toArray meth c cX0_cut wsX0_cut (some .int) 4 RX0 := ⟨B.exec, B.bytes, B.returns, hml, findClass_of_methodNamed B.named, atoms_spec (ws := wsX0_cut) B.pre, B.notSynchronized⟩
  have hC0 := hC
  obtain ⟨hx, hb, hr, hml, hown, hts, hlocks⟩ := hC
  subst hsz
  have hD := hD0.self (sz := s.heap.size)
  have hA : ∀ q : Nat, s.heap.size ≤ q → va_A (wX0 ad cA nW nH ff fd cols rows ends ecost ecnt tails longer) s.heap.size q := fun q h => Or.inr h
  have hS : va_S (va_A (wX0 ad cA nW nH ff fd cols rows ends ecost ecnt tails longer) s.heap.size) s.heap s.heap [] := va_S.rf
  generalize hQe : (va_Qi (S := (Int32) × (Int32) × (Nat → Int64) × (Nat → Int32) × (Nat → Int32)) (fun (r : Int32) (u : (Int32) × (Int32) × (Nat → Int64) × (Nat → Int32) × (Nat → Int32)) => Post r u.1 u.2.1 u.2.2.1 u.2.2.2.1 u.2.2.2.2) (zB (dC, dI) vwCl (tX0 cA) (wX0 ad cA nW nH ff fd cols rows ends ecost ecnt tails longer) s.heap.size (fun u : (Int32) × (Int32) × (Nat → Int64) × (Nat → Int32) × (Nat → Int32) => wX0 ad cA nW nH u.1 u.2.1 cols rows u.2.2.1 u.2.2.2.1 u.2.2.2.2 tails longer)) (va_A (wX0 ad cA nW nH ff fd cols rows ends ecost ecnt tails longer) s.heap.size)) = Qc
  generalize hAe : va_A (wX0 ad cA nW nH ff fd cols rows ends ecost ecnt tails longer) s.heap.size = A at hD hA hS hQe ⊢
  have hQ : ∀ (r : Int32) (ff : Int32) (fd : Int32) (ends : Nat → Int64) (ecost : Nat → Int32) (ecnt : Nat → Int32) (H : Heap) (locs : List Loc), va_P (dC, dI) vwCl (wX0 ad cA nW nH ff fd cols rows ends ecost ecnt tails longer) H → va_D A (wX0 ad cA nW nH ff fd cols rows ends ecost ecnt tails longer) → va_S A s.heap H locs → Post r ff fd ends ecost ecnt → ∀ t : State, t.heap = H → s.WarmedH t.vm → Qc [.ref (ad 0), .int a1].toArray s (.returned (some (.int r))) t := by
    intro r ff fd ends ecost ecnt H locs hP hD hS h t ht hW
    rw [← hQe]
    exact ⟨⟨r, (ff, fd, ends, ecost, ecnt), rfl, h, by rw [ht]; exact hP, va_K.moved hW.alike hK, hAe ▸ hD⟩, hS.F ht⟩
  clear hQe hAe
  have hl := lv_entry ([.ref (ad 0), .int a1]) (n := 4) (Nat.le_of_ble_eq_true rfl)
  rw [lg_entry_eq]
  generalize (lg_sl ([.ref (ad 0), .int a1]) ++ List.replicate (4 - (lg_sl ([.ref (ad 0), .int a1])).length) Slot.unset).toArray = ls at hl ⊢
  have hl : lv_has ls 4 [(0, .ref (ad 0)), (1, .int a1)] := hl
  show W p l e ({ frames := 6, cells := 0, slots := 0, locals := 149 } : Room) s m _ below meth c s.heap [] 0 0 (MQ below Qc _ s 0 0 A) (F0 m 0 ls [])
  unfold wX0_cut at h
  refine lv_iload_n hx hb dX0_cut_0 rfl (lv_at hl 1 rfl) ?_
  refine lv_iconst (v := 1) hx hb dX0_cut_1 (by decide) ?_
  refine lv_icmp_lt (tgt := 11) hx hb dX0_cut_2 (by decide) (fun c => ?_) (fun c => ?_)
  · have h := h.1 c
    refine lv_iconst (v := (-1)) hx hb dX0_cut_11 (by decide) ?_
    exact W.iret (v := (-1)) hx hb hr (hQ _ _ _ _ _ _ _ _ hP hD hS h) hS.2.2 dX0_cut_12
  · have h := h.2 c
    refine lv_iload_n hx hb dX0_cut_5 rfl (lv_at hl 1 rfl) ?_
    refine lv_bipush (v := 40) hx hb dX0_cut_6 (by decide) ?_
    refine lv_icmp_le (tgt := 13) hx hb dX0_cut_8 (by decide) (fun c => ?_) (fun c => ?_)
    · have h := h.1 c
      refine lv_aload_n hx hb dX0_cut_13 rfl (lv_at hl 0 rfl) ?_
      refine z_cVi (ci := 1) (As := []) (rest := []) ⟨hx, hb, hml, hown, hts⟩ (mX0_firstDarkColumn l h) (cwV 0 hts gX0_cut_X0_firstDarkColumn rfl rfl rfl (by decide +kernel) ⟨Nat.le_of_ble_eq_true rfl, Nat.le_of_ble_eq_true rfl⟩) hK hP 0 rfl rfl rfl rfl hl.1 rfl (Nat.le_of_ble_eq_true rfl) dX0_cut_14 ⟨Nat.le_of_ble_eq_true rfl, Nat.le_of_ble_eq_true rfl⟩ (fun r_1 h => ?_)
      refine lv_istore_n (lv' := [(2, .int r_1), (0, .ref (ad 0)), (1, .int a1)]) hx hb dX0_cut_17 rfl hl (by decide) rfl (fun ls hl => ?_)
      refine lv_iload_n hx hb dX0_cut_18 rfl (lv_at hl 0 rfl) ?_
      refine lv_iconst (v := (-1)) hx hb dX0_cut_19 (by decide) ?_
      refine lv_icmp_ne (tgt := 30) hx hb dX0_cut_20 (by decide) (fun c => ?_) (fun c => ?_)
      · have h := h.2 c
        refine lv_aload_n hx hb dX0_cut_30 rfl (lv_at hl 1 rfl) ?_
        refine z_cVi (ci := 1) (As := []) (rest := []) ⟨hx, hb, hml, hown, hts⟩ (mX0_lastDarkColumn l h) (cwV 0 hts gX0_cut_X0_lastDarkColumn rfl rfl rfl (by decide +kernel) ⟨Nat.le_of_ble_eq_true rfl, Nat.le_of_ble_eq_true rfl⟩) hK hP 0 rfl rfl rfl rfl hl.1 rfl (Nat.le_of_ble_eq_true rfl) dX0_cut_31 ⟨Nat.le_of_ble_eq_true rfl, Nat.le_of_ble_eq_true rfl⟩ (fun r_2 h => ?_)
        refine lv_iconst (v := 1) hx hb dX0_cut_34 (by decide) ?_
        refine lv_iadd hx hb dX0_cut_35 ?_
        refine lv_topi (fun x3_3 ex3_3 => ?_)
        have h := h x3_3 ex3_3
        refine lv_istore_n (lv' := [(3, .int x3_3), (2, .int r_1), (0, .ref (ad 0)), (1, .int a1)]) hx hb dX0_cut_36 rfl hl (by decide) rfl (fun ls hl => ?_)
        refine lv_aload_n hx hb dX0_cut_37 rfl (lv_at hl 2 rfl) ?_
        refine lv_iload_n hx hb dX0_cut_38 rfl (lv_at hl 0 rfl) ?_
        refine z_cVv (ci := 1) (As := [.int x3_3]) (rest := []) ⟨hx, hb, hml, hown, hts⟩ (mX0_shelveUntil l h) (cwV 1 hts gX0_cut_X0_shelveUntil rfl rfl rfl (by decide +kernel) ⟨Nat.le_of_ble_eq_true rfl, Nat.le_of_ble_eq_true rfl⟩) hK hP hD hS hA 0 rfl rfl rfl rfl hl.1 rfl (Nat.le_of_ble_eq_true rfl) dX0_cut_39 ⟨Nat.le_of_ble_eq_true rfl, Nat.le_of_ble_eq_true rfl⟩ (fun u_4 H locs h hP hD hS => ?_)
        revert h hP hD
        generalize u_4.1 = ends_6
        generalize u_4.2.1 = ecost_7
        generalize u_4.2.2 = ecnt_8
        intro h hP hD
        have hP : va_P (dC, dI) vwCl (wX0 ad cA nW nH ff fd cols rows ends_6 ecost_7 ecnt_8 tails longer) H := hP
        have hD : va_D A (wX0 ad cA nW nH ff fd cols rows ends_6 ecost_7 ecnt_8 tails longer) := hD
        refine lv_aload_n hx hb dX0_cut_42 rfl (lv_at hl 2 rfl) ?_
        refine lv_iload_n hx hb dX0_cut_43 rfl (lv_at hl 1 rfl) ?_
        refine lv_iload_n hx hb dX0_cut_44 rfl (lv_at hl 0 rfl) ?_
        refine lv_iload_n hx hb dX0_cut_45 rfl (lv_at hl 3 rfl) ?_
        refine z_cVv (ci := 1) (As := [.int r_1, .int x3_3, .int a1]) (rest := []) ⟨hx, hb, hml, hown, hts⟩ (mX0_shelveEnds l h) (cwV 3 hts gX0_cut_X0_shelveEnds rfl rfl rfl (by decide +kernel) ⟨Nat.le_of_ble_eq_true rfl, Nat.le_of_ble_eq_true rfl⟩) hK hP hD hS hA 0 rfl rfl rfl rfl hl.1 rfl (Nat.le_of_ble_eq_true rfl) dX0_cut_46 ⟨Nat.le_of_ble_eq_true rfl, Nat.le_of_ble_eq_true rfl⟩ (fun u_9 H locs h hP hD hS => ?_)
        revert h hP hD
        generalize u_9.1 = ends_11
        generalize u_9.2.1 = ecost_12
        generalize u_9.2.2 = ecnt_13
        intro h hP hD
        have hP : va_P (dC, dI) vwCl (wX0 ad cA nW nH ff fd cols rows ends_11 ecost_12 ecnt_13 tails longer) H := hP
        have hD : va_D A (wX0 ad cA nW nH ff fd cols rows ends_11 ecost_12 ecnt_13 tails longer) := hD
        refine lv_aload_n hx hb dX0_cut_49 rfl (lv_at hl 2 rfl) ?_
        refine lv_iload_n hx hb dX0_cut_50 rfl (lv_at hl 1 rfl) ?_
        refine va_put (D := (dC, dI)) (ci := 1) (v := .int r_1) (ty := .int) (C := RX0) (T := TX0) (N := 11) hx hb hts in_X0_cut tyX0 tyX0_ok nmX0 hown hK hP hD hS 0 rfl rfl 7 (by decide) (hts (.fieldLink RX0 75 "SignCutter" "foundFrom" "I") (by decide +kernel)) (fun _ h9 => h9) rfl (by decide +kernel) rfl rfl (Nat.le_of_ble_eq_true rfl) dX0_cut_51 (fun H locs hP hD hS => ?_)
        have hP : va_P (dC, dI) vwCl (wX0 ad cA nW nH r_1 fd cols rows ends_11 ecost_12 ecnt_13 tails longer) H := hP
        have hD : va_D A (wX0 ad cA nW nH r_1 fd cols rows ends_11 ecost_12 ecnt_13 tails longer) := hD
        refine lv_aload_n hx hb dX0_cut_54 rfl (lv_at hl 2 rfl) ?_
        refine lv_aload_n hx hb dX0_cut_55 rfl (lv_at hl 2 rfl) ?_
        refine va_get (D := (dC, dI)) (ci := 1) (v := .ref (ad 5)) (C := RX0) (T := TX0) (N := 11) hx hb hts in_X0_cut hown hK hP 0 rfl rfl 6 (by decide) (hts (.fieldLink RX0 39 "SignCutter" "endCounts" "[I") (by decide +kernel)) (fun _ h9 => h9) rfl dX0_cut_56 ?_
        refine lv_iload_n hx hb dX0_cut_59 rfl (lv_at hl 1 rfl) ?_
        refine z_iald hx hb hK hP 5 4 rfl rfl h dX0_cut_60 (fun j_14 h => ?_)
        refine lv_topi (fun v_15 ev_15 => ?_)
        have h := h v_15 ev_15
        refine va_put (D := (dC, dI)) (ci := 1) (v := .int v_15) (ty := .int) (C := RX0) (T := TX0) (N := 11) hx hb hts in_X0_cut tyX0 tyX0_ok nmX0 hown hK hP hD hS 0 rfl rfl 8 (by decide) (hts (.fieldLink RX0 61 "SignCutter" "found" "I") (by decide +kernel)) (fun _ h9 => h9) rfl (by decide +kernel) rfl rfl (Nat.le_of_ble_eq_true rfl) dX0_cut_61 (fun H locs hP hD hS => ?_)
        have hP : va_P (dC, dI) vwCl (wX0 ad cA nW nH r_1 v_15 cols rows ends_11 ecost_12 ecnt_13 tails longer) H := hP
        have hD : va_D A (wX0 ad cA nW nH r_1 v_15 cols rows ends_11 ecost_12 ecnt_13 tails longer) := hD
        refine lv_aload_n hx hb dX0_cut_64 rfl (lv_at hl 2 rfl) ?_
        refine va_get (D := (dC, dI)) (ci := 1) (v := .int v_15) (C := RX0) (T := TX0) (N := 11) hx hb hts in_X0_cut hown hK hP 0 rfl rfl 8 (by decide) (hts (.fieldLink RX0 61 "SignCutter" "found" "I") (by decide +kernel)) (fun _ h9 => h9) rfl dX0_cut_65 ?_
        exact W.iret (v := v_15) hx hb hr (hQ _ _ _ _ _ _ _ _ hP hD hS h) hS.2.2 dX0_cut_68
      · have h := h.1 c
        refine lv_aload_n hx hb dX0_cut_23 rfl (lv_at hl 1 rfl) ?_
        refine lv_iconst (v := 0) hx hb dX0_cut_24 (by decide) ?_
        refine va_put (D := (dC, dI)) (ci := 1) (v := .int 0) (ty := .int) (C := RX0) (T := TX0) (N := 11) hx hb hts in_X0_cut tyX0 tyX0_ok nmX0 hown hK hP hD hS 0 rfl rfl 8 (by decide) (hts (.fieldLink RX0 61 "SignCutter" "found" "I") (by decide +kernel)) (fun _ h9 => h9) rfl (by decide +kernel) rfl rfl (Nat.le_of_ble_eq_true rfl) dX0_cut_25 (fun H locs hP hD hS => ?_)
        have hP : va_P (dC, dI) vwCl (wX0 ad cA nW nH ff 0 cols rows ends ecost ecnt tails longer) H := hP
        have hD : va_D A (wX0 ad cA nW nH ff 0 cols rows ends ecost ecnt tails longer) := hD
        refine lv_iconst (v := 0) hx hb dX0_cut_28 (by decide) ?_
        exact W.iret (v := 0) hx hb hr (hQ _ _ _ _ _ _ _ _ hP hD hS h) hS.2.2 dX0_cut_29
    · have h := h.2 c
      refine lv_iconst (v := (-1)) hx hb dX0_cut_11 (by decide) ?_
      exact W.iret (v := (-1)) hx hb hr (hQ _ _ _ _ _ _ _ _ hP hD hS h) hS.2.2 dX0_cut_12
