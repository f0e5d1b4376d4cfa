/-! ===== the law from its entry ===== -/
section ZY
variable {p : Program} {l : Launch} {e : Env} {s : State} {m : MethodId} {below : List Frame} {meth : Method} {c : Code} {H : Heap} {locs : List Loc} {cells slots : Nat} {Q : State → Prop} {pc : Nat} {ls : Array Slot} {rest : List Value} {b L : Nat} {xs : Nat → Int32}
theorem z_cell {k : Nat} (hL : L ≤ 2050) (hk : k < 2 ^ 31) (C0 : lw_At p s m meth c b L xs) (hXH : va_X b L xs s H) (hsize : ls.size = 5) (hW : (rest.map fun v => v.category).sum ≤ 8) (hdg : decode code pc = .ok (.invokestatic 15, 3)) (hf : cells ≤ 601024 ∧ slots ≤ 7293000)
    (kk : W p l e room_1 s m #[Value.ref b] below meth c H locs cells slots Q (F0 m (pc + 3) ls (.int (cellV L xs k) :: rest))) : W p l e room_1 s m #[Value.ref b] below meth c H locs cells slots Q (F0 m pc ls (.int (nI k) :: .ref b :: rest)) := by
  obtain ⟨hx, hb, hr, hml, hown, htb, -, hbl, hlocks, -⟩ := C0
  have hts : ∀ w ∈ wsL_law, w.before _ s = true := fun w hw => htb w (wsL_law_in w hw)
  exact vp_callSi (W.runS (As := [.ref b, .int (nI k)]) (rest := rest) ⟨hx, hb, hml, hown, hts⟩ (mL_cell l (L := L) (xs := xs) (by omega) hk) (va_cwS 2 hts gL_law_L_cell rfl rfl rfl (by decide +kernel) ⟨Nat.le_of_ble_eq_true rfl, Nat.le_of_ble_eq_true rfl⟩) ⟨zPx_blind, fun U hU hW => ⟨rfl, by show va_X b L xs U U.heap; rw [hU]; exact va_X.moved hW.alike hXH⟩⟩ rfl rfl hsize rfl (lv_room hW) hdg hf) (fun r hr => by rw [hr]; exact kk)
end ZY
theorem zDW_in : ∀ w ∈ zDW, w ∈ lw_tbl := by decide +kernel
theorem z_start {s : State} {b : Nat} (htb : ∀ w ∈ lw_tbl, w.before #[Value.ref b] s = true) (hgv : (Jvm.Cond.and given_1 narrow_1).before #[Value.ref b] s = true) {A : Nat → Prop} (hA : ∀ a : Nat, a < s.heap.size → ¬ A a) : ∃ tq, zX tq A s s.heap := by
  have hf := flat_of_before _ hgv
  have h1 : (Cond.isRef (.static "java/lang/Throwable" "UNASSIGNED_STACK" "[Ljava/lang/StackTraceElement;")).before #[Value.ref b] s = true := hf _ (by decide +kernel)
  have h2 : (Cond.isRef (.static "java/lang/Throwable" "SUPPRESSED_SENTINEL" "Ljava/util/List;")).before #[Value.ref b] s = true := hf _ (by decide +kernel)
  have h3 : (Cond.exactly (.string "SignCutter" 50) "java/lang/String").before #[Value.ref b] s = true := hf _ (by decide +kernel)
  obtain ⟨a, c, cA, kA, q1, -⟩ := Cond.exactly_spec (args := #[Value.ref b]) (first := s) (o := none) (s := s) (idx := []) (t := .string "SignCutter" 50) (cls := "java/lang/String") h3
  refine ⟨a, zSF.of (htb _ (by decide +kernel)) h1 hA, zSF.of (htb _ (by decide +kernel)) h2 hA, fun w hw => ?_, vk_R.of (htb (.stringRef RX0 50 "there is no such spot") (by decide +kernel)) q1⟩
  refine va_tabs (c := w) ?_ (u := s) (U := s) rfl (htb w (zDW_in w hw))
  simp only [zDW, List.mem_cons, List.not_mem_nil, or_false] at hw
  rcases hw with rfl | rfl | rfl | rfl | rfl <;> rfl
set_option maxHeartbeats 4000000 in
set_option maxRecDepth 100000 in
theorem whole_start {p : Program} {e : Env} {s : State} {m : MethodId} {below : List Frame} {meth : Method} {c : Code} (l : Launch) (hfl : l.flags = pinnedFlags ++ [noTraceFlag]) {b L : Nat} {xs : Nat → Int32} (hL : L ≤ 2050) (C0 : lw_At p s m meth c b L xs) : W p l e room_1 s m #[Value.ref b] below meth c s.heap [] 0 0 (lw_Z below #[Value.ref b] s) (entryFrame m ([Value.ref b] : List Value).toArray 5) := by
  obtain ⟨hx, hb, hr, hml, hown, htb, hX, hbl, hlocks, hgv⟩ := id C0
  have hts : ∀ w ∈ wsL_law, w.before _ s = true := fun w hw => htb w (wsL_law_in w hw)
  obtain ⟨A, hAe⟩ : ∃ A : Nat → Prop, A = fun q : Nat => s.heap.size ≤ q := ⟨_, rfl⟩
  have hA : ∀ q : Nat, s.heap.size ≤ q → A q := fun q h => by rw [hAe]; exact h
  have hA2 : ∀ q : Nat, A q → s.heap.size ≤ q := fun q h => by rw [hAe] at h; exact h
  have hbA : ¬ A b := fun h => absurd (hA2 b h) (Nat.not_le.mpr hbl)
  obtain ⟨tq, hZ⟩ := z_start (A := A) htb hgv (fun a h1 h2 => absurd (hA2 a h2) (Nat.not_le.mpr h1))
  obtain ⟨k0, i0, hKn0⟩ := u_known (C := RJx00060) (T := TJx00060) (N := 6) (n := 6) hts (by decide +kernel) (hts (.instantiable RJx00060 6) (by decide +kernel))
  obtain ⟨k1, i1, hKn1⟩ := u_known (C := RX0) (T := TX0) (N := 11) (n := 11) hts (by decide +kernel) (hts (.instantiable RX0 11) (by decide +kernel))
  obtain ⟨k2, i2, hKn2⟩ := u_known (C := RX1) (T := TX1) (N := 17) (n := 17) hts (by decide +kernel) (hts (.instantiable RX1 17) (by decide +kernel))
  obtain ⟨dC, dI, hKc⟩ : ∃ (dC : Nat → ClassId) (dI : Nat → Nat → Nat), ∀ (k : Nat) (q : vw_C), vwCl[k]? = some q → u_Kn s q.1 q.2.1 q.2.2 (dC k) (dI k) := by
    refine ⟨fun k => if k = 0 then k0 else if k = 1 then k1 else k2, fun k => if k = 0 then i0 else if k = 1 then i1 else i2, ?_⟩
    intro k q hq
    match k, hq with
    | 0, hq => cases hq; exact hKn0
    | 1, hq => cases hq; exact hKn1
    | 2, hq => cases hq; exact hKn2
    | k + 3, hq => simp [vwCl] at hq
  have hS : va_S A s.heap s.heap [] := va_S.rf
  have hK : va_K (dC, dI) vwCl [] s := ⟨hKc, fun k q h => by simp at h⟩
  have hP : va_P (dC, dI) vwCl [] s.heap := fun k q h => by simp at h
  have hD : va_D A [] := ⟨fun i j p q h => by simp at h, fun k q h => by simp at h⟩
  obtain ⟨nW, w1, w2, e1, f1⟩ := clN_ex 60 (by decide) (by decide) (cellV L xs 0)
  obtain ⟨nH, w3, w4, e2, f2⟩ := clN_ex 40 (by decide) (by decide) (cellV L xs 1)
  have hs : szs nW nH := ⟨w1, w2, w3, w4⟩
  have hl := lv_entry ([.ref b]) (n := 5) (Nat.le_of_ble_eq_true rfl)
  rw [lg_entry_eq]
  generalize (lg_sl ([.ref b]) ++ List.replicate (5 - (lg_sl ([.ref b])).length) Slot.unset).toArray = ls at hl ⊢
  have hl : lv_has ls 5 [(0, .ref b)] := hl
  refine va_new (ci := 1) (fs := [.int 0, .int 0, .null, .null, .null, .null, .null, .int 0, .int 0, .null, .null]) (C := RX0) (T := TX0) (N := 11) hx hb hts (by decide +kernel) tyX0 tyX0_ok hown (hts (.classLink RL 8 RX0) (by decide +kernel)) (hts (.instantiable RX0 11) (by decide +kernel)) (hts (.initialized RX0) (by decide +kernel)) hK hP hD hS hA rfl (by decide) (Nat.le_of_ble_eq_true rfl) (Nat.le_of_ble_eq_true rfl) dL_law_0 (fun q0 H hP hD hS => ?_)
  have hP : va_P (dC, dI) vwCl [(q0, .inr (1, [.int 0, .int 0, .null, .null, .null, .null, .null, .int 0, .int 0, .null, .null]))] H := hP
  have hD : va_D A [(q0, .inr (1, [.int 0, .int 0, .null, .null, .null, .null, .null, .int 0, .int 0, .null, .null]))] := hD
  refine W.widen (k := 1) (n := 11) (by omega) (by omega) ?_
  refine lv_dup hx hb dL_law_3 rfl ?_
  have hXH : va_X b L xs s H := hX.kept (hS.2.1 b hbl hbA)
  refine lv_aload_n hx hb dL_law_4 rfl (lv_at hl 0 rfl) ?_
  refine lv_iconst (v := 0) hx hb dL_law_5 (by decide) ?_
  refine z_cell (k := 0) hL (by decide) C0 hXH hl.1 (Nat.le_of_ble_eq_true rfl) dL_law_6 ⟨by decide, by decide⟩ ?_
  refine lv_aload_n hx hb dL_law_9 rfl (lv_at hl 0 rfl) ?_
  refine lv_iconst (v := 1) hx hb dL_law_10 (by decide) ?_
  refine z_cell (k := 1) hL (by decide) C0 hXH hl.1 (Nat.le_of_ble_eq_true rfl) dL_law_11 ⟨by decide, by decide⟩ ?_
  have hF := vaA_F hD hS hA
  refine va_callv (va_runI (As := [.int (cellV L xs 0), .int (cellV L xs 1)]) (rest := [.ref q0]) ⟨hx, hb, hml, hown, hts⟩ (mX0_init l (dC := dC) (dI := dI) (h0 := q0) (sz := H.size) e1 e2 hs) (cwI 2 hts gL_law_X0_init rfl rfl rfl (hts (.initialized RX0) (by decide +kernel)) (hts (.methodLink RL 21 yX0_init) (by decide +kernel)) (hts (.instanceMethod yX0_init) (by decide +kernel)) rfl (by decide +kernel) ⟨Nat.le_of_ble_eq_true rfl, Nat.le_of_ble_eq_true rfl⟩) ⟨zPw_blind, fun U hU hW => ⟨rfl, by rw [hU], by rw [hU]; exact hP, va_K.moved hW.alike hK, hD.weaken (fun _ _ _ _ => trivial)⟩⟩ rfl rfl hl.1 rfl (lv_room (Nat.le_of_ble_eq_true rfl)) dL_law_14 ⟨Nat.le_of_ble_eq_true rfl, Nat.le_of_ble_eq_true rfl⟩) hS (fun q _ h => hF q h) hF (fun u t H1 locs ht hvm hw hB hz1 hk1 hS => ?_)
  obtain ⟨ad0, cA0⟩ := u
  obtain ⟨hP0, hK0, hD0⟩ := hB
  rw [ht] at hP0
  have hK0 : va_K (dC, dI) vwCl (tX0 cA0) s := va_K.moved hvm.symm hK0
  have hD0 := hD0.weaken (B := A) (fun _ _ _ h => hF _ h)
  have hw : ad0 0 = q0 := hw
  clear hP hD hk1 hz1 hF hXH
  generalize H1 = H at hP0 hS ⊢
  generalize hw0 : wX0 ad0 cA0 nW nH 0 0 (fun _ => 0) (fun _ => 0) (fun _ => 0) (fun _ => 0) (fun _ => 0) (fun _ => 0) (fun _ => 0) = w0
  have hP : va_P (dC, dI) vwCl w0 H := by rw [← hw0]; exact hP0
  have hD : va_D A w0 := by rw [← hw0]; exact hD0
  refine W.widen (k := 8) (n := 5174) (by omega) (by omega) ?_
  refine lv_astore_n (lv' := [(1, .ref q0), (0, .ref b)]) hx hb dL_law_17 rfl hl (by decide) rfl (fun ls hl => ?_)
  refine va_new (ci := 2) (fs := [.int 0, .int 0, .int 0, .null, .null, .null, .null, .null, .int 0, .null, .null, .null, .null, .null, .null, .null, .int 0]) (C := RX1) (T := TX1) (N := 17) hx hb hts (by decide +kernel) tyX1 tyX1_ok hown (hts (.classLink RL 24 RX1) (by decide +kernel)) (hts (.instantiable RX1 17) (by decide +kernel)) (hts (.initialized RX1) (by decide +kernel)) hK hP hD hS hA rfl (by decide) (Nat.le_of_ble_eq_true rfl) (Nat.le_of_ble_eq_true rfl) dL_law_18 (fun q1 H hP hD hS => ?_)
  refine W.widen (k := 9) (n := 5191) (by omega) (by omega) ?_
  refine lv_dup hx hb dL_law_21 rfl ?_
  have hXH : va_X b L xs s H := hX.kept (hS.2.1 b hbl hbA)
  refine lv_aload_n hx hb dL_law_22 rfl (lv_at hl 1 rfl) ?_
  refine lv_iconst (v := 0) hx hb dL_law_23 (by decide) ?_
  refine z_cell (k := 0) hL (by decide) C0 hXH hl.1 (Nat.le_of_ble_eq_true rfl) dL_law_24 ⟨by decide, by decide⟩ ?_
  refine lv_aload_n hx hb dL_law_27 rfl (lv_at hl 1 rfl) ?_
  refine lv_iconst (v := 1) hx hb dL_law_28 (by decide) ?_
  refine z_cell (k := 1) hL (by decide) C0 hXH hl.1 (Nat.le_of_ble_eq_true rfl) dL_law_29 ⟨by decide, by decide⟩ ?_
  have hF := vaA_F (vaD_r hD) hS hA
  refine va_callv (va_runI (As := [.int (cellV L xs 0), .int (cellV L xs 1)]) (rest := [.ref q1]) ⟨hx, hb, hml, hown, hts⟩ (mX1_init l (dC := dC) (dI := dI) (h0 := q1) (sz := H.size) f1 f2 hs) (cwI 2 hts gL_law_X1_init rfl rfl rfl (hts (.initialized RX1) (by decide +kernel)) (hts (.methodLink RL 26 yX1_init) (by decide +kernel)) (hts (.instanceMethod yX1_init) (by decide +kernel)) rfl (by decide +kernel) ⟨Nat.le_of_ble_eq_true rfl, Nat.le_of_ble_eq_true rfl⟩) ⟨zPw_blind, fun U hU hW => ⟨rfl, by rw [hU], by rw [hU]; exact vaP_r hP, va_K.moved hW.alike hK, (vaD_r hD).weaken (fun _ _ _ _ => trivial)⟩⟩ rfl rfl hl.1 rfl (lv_room (Nat.le_of_ble_eq_true rfl)) dL_law_32 ⟨Nat.le_of_ble_eq_true rfl, Nat.le_of_ble_eq_true rfl⟩) hS (fun q _ h => hF q h) hF (fun u t H1 locs ht hvm hv hB hz1 hk1 hS => ?_)
  obtain ⟨ad1, cA1⟩ := u
  obtain ⟨hP1, hK1, hD1⟩ := hB
  rw [ht] at hP1
  have hK1 : va_K (dC, dI) vwCl (tX1 cA1) s := va_K.moved hvm.symm hK1
  have hv : ad1 0 = q1 := hv
  obtain ⟨hP, hD⟩ := z_joinR hP hD hk1 hF hP1 hD1
  refine W.widen (k := 21 + 0) (n := 21436 + 6 * 0) (by omega) (by omega) ?_
  refine lv_astore_n (lv' := [(2, .ref q1), (1, .ref q0), (0, .ref b)]) hx hb dL_law_35 rfl hl (by decide) rfl (fun ls hl => ?_)
  refine lv_iconst (v := 2) hx hb dL_law_36 (by decide) ?_
  refine lv_istore_n (lv' := [(3, .int 2), (2, .ref q1), (1, .ref q0), (0, .ref b)]) hx hb dL_law_37 rfl hl (by decide) rfl (fun ls hl => ?_)
  rw [← hw, ← hv] at hl
  exact law_loop hfl hL C0 hs hK0 hK1 hA hA2 hbA hZ (L + 1) 0 (by omega) (Or.inl rfl) _ _ _ _ _ _ ls okL_new ⟨_, _, _, _, _, _, _, _, _, hw0.symm, inv0_new⟩ ⟨_, _, _, _, _, _, _, _, _, _, _, _, _, _, _, rfl, inv1_new⟩ hP hD hS (lv_sub hl [3, 2, 1, 0] rfl)
