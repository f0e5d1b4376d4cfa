/-! ===== PRINTED BY wip/gen/gen.py: the machine does what the predicates say ===== -/
theorem in_X1_way : ∀ w ∈ wsX10, w ∈ wsX1_way := by decide +kernel
set_option maxHeartbeats 4000000 in
set_option maxRecDepth 100000 in
theorem mX1_way (l : Launch) {dC : Nat → ClassId} {dI : Nat → Nat → Nat} {ad : Nat → Nat} {cA : Nat → ClassId} {nW : Nat} {nH : Nat} {th : Int32} {fn : Int32} {wd : Int32} {dk : Nat → Int32} {mn : Nat → Int32} {cs : Nat → Int64} {nx : Nat → Int32} {gs : Nat → Int32} {pr : Nat → Int64} {ln : Nat → Int32} {wy : Nat → Int32} {ct : Nat → Int64} {bf : Nat → Int64} {sg : Nat → Int64} {my : Nat → Int32} {sz : Nat} {a1 : Int32} {a2 : Int32} {Post : Int32 → (Int32) → Prop} (h : wX1_way fn ln wy th a1 a2 Post) : Met l yX1_way wsX1_way ({ frames := 0, cells := 0, slots := 0, locals := 0 } : Room) (zPw (dC, dI) vwCl (tX1 cA) (wX1 ad cA nW nH th fn wd dk mn cs nx gs pr ln wy ct bf sg my) sz [.ref (ad 0), .int a1, .int a2]) (va_Qi (S := (Int32)) (fun (r : Int32) (u : (Int32)) => Post r u) (zB (dC, dI) vwCl (tX1 cA) (wX1 ad cA nW nH th fn wd dk mn cs nx gs pr ln wy ct bf sg my) sz (fun u : (Int32) => wX1 ad cA nW nH u fn wd dk mn cs nx gs pr ln wy ct bf sg my)) (va_A (wX1 ad cA nW nH th fn wd dk mn cs nx gs pr ln wy ct bf sg my) sz)) 0 0 (va_A (wX1 ad cA nW nH th fn wd dk mn cs nx gs pr ln wy ct bf sg my) sz) := by
  refine Met.ofW (cc := cX1_way) (maxL := 3) (ret := (some .int)) (by decide) rfl ?_
  intro p e s m args below meth c s₁ B hml hv
  obtain ⟨rfl, hsz, hP, hK, hD0⟩ := hv
  have hC : zC p s m [.ref (ad 0), .int a1, .int a2].toArray meth c cX1_way wsX1_way (some .int) 3 RX1 := ⟨B.exec, B.bytes, B.returns, hml, findClass_of_methodNamed B.named, atoms_spec (ws := wsX1_way) B.pre, B.notSynchronized⟩
  have hC0 := hC
  obtain ⟨hx, hb, hr, hml, hown, hts, hlocks⟩ := hC
  subst hsz
  have hD := hD0.self (sz := s.heap.size)
  have hA : ∀ q : Nat, s.heap.size ≤ q → va_A (wX1 ad cA nW nH th fn wd dk mn cs nx gs pr ln wy ct bf sg my) s.heap.size q := fun q h => Or.inr h
  have hS : va_S (va_A (wX1 ad cA nW nH th fn wd dk mn cs nx gs pr ln wy ct bf sg my) s.heap.size) s.heap s.heap [] := va_S.rf
  generalize hQe : (va_Qi (S := (Int32)) (fun (r : Int32) (u : (Int32)) => Post r u) (zB (dC, dI) vwCl (tX1 cA) (wX1 ad cA nW nH th fn wd dk mn cs nx gs pr ln wy ct bf sg my) s.heap.size (fun u : (Int32) => wX1 ad cA nW nH u fn wd dk mn cs nx gs pr ln wy ct bf sg my)) (va_A (wX1 ad cA nW nH th fn wd dk mn cs nx gs pr ln wy ct bf sg my) s.heap.size)) = Qc
  generalize hAe : va_A (wX1 ad cA nW nH th fn wd dk mn cs nx gs pr ln wy ct bf sg my) s.heap.size = A at hD hA hS hQe ⊢
  have hQ : ∀ (r : Int32) (th : Int32) (H : Heap) (locs : List Loc), va_P (dC, dI) vwCl (wX1 ad cA nW nH th fn wd dk mn cs nx gs pr ln wy ct bf sg my) H → va_D A (wX1 ad cA nW nH th fn wd dk mn cs nx gs pr ln wy ct bf sg my) → va_S A s.heap H locs → Post r th → ∀ t : State, t.heap = H → s.WarmedH t.vm → Qc [.ref (ad 0), .int a1, .int a2].toArray s (.returned (some (.int r))) t := by
    intro r th H locs hP hD hS h t ht hW
    rw [← hQe]
    exact ⟨⟨r, th, rfl, h, by rw [ht]; exact hP, va_K.moved hW.alike hK, hAe ▸ hD⟩, hS.F ht⟩
  clear hQe hAe
  have hl := lv_entry ([.ref (ad 0), .int a1, .int a2]) (n := 3) (Nat.le_of_ble_eq_true rfl)
  rw [lg_entry_eq]
  generalize (lg_sl ([.ref (ad 0), .int a1, .int a2]) ++ List.replicate (3 - (lg_sl ([.ref (ad 0), .int a1, .int a2])).length) Slot.unset).toArray = ls at hl ⊢
  have hl : lv_has ls 3 [(0, .ref (ad 0)), (1, .int a1), (2, .int a2)] := hl
  show W p l e ({ frames := 0, cells := 0, slots := 0, locals := 0 } : Room) s m _ below meth c s.heap [] 0 0 (MQ below Qc _ s 0 0 A) (F0 m 0 ls [])
  unfold wX1_way at h
  refine lv_aload_n hx hb dX1_way_0 rfl (lv_at hl 0 rfl) ?_
  refine lv_iconst (v := 0) hx hb dX1_way_1 (by decide) ?_
  refine va_put (D := (dC, dI)) (ci := 2) (v := .int 0) (ty := .int) (C := RX1) (T := TX1) (N := 17) hx hb hts in_X1_way tyX1 tyX1_ok nmX1 hown hK hP hD hS 0 rfl rfl 0 (by decide) (hts (.fieldLink RX1 55 "SignCutterModel" "thrown" "I") (by decide +kernel)) (fun _ h9 => h9) rfl (by decide +kernel) rfl rfl (Nat.le_of_ble_eq_true rfl) dX1_way_2 (fun H locs hP hD hS => ?_)
  have hP : va_P (dC, dI) vwCl (wX1 ad cA nW nH 0 fn wd dk mn cs nx gs pr ln wy ct bf sg my) H := hP
  have hD : va_D A (wX1 ad cA nW nH 0 fn wd dk mn cs nx gs pr ln wy ct bf sg my) := hD
  refine lv_iload_n hx hb dX1_way_5 rfl (lv_at hl 1 rfl) ?_
  refine lv_if_lt (tgt := 31) hx hb dX1_way_6 (by decide) (fun c => ?_) (fun c => ?_)
  · have h := h.1 c
    refine lv_iconst (v := (-1)) hx hb dX1_way_31 (by decide) ?_
    refine lv_goto (tgt := 46) hx hb dX1_way_32 (by decide) ?_
    exact W.iret (v := (-1)) hx hb hr (hQ _ _ _ _ hP hD hS h) hS.2.2 dX1_way_46
  · have h := h.2 c
    refine lv_iload_n hx hb dX1_way_9 rfl (lv_at hl 1 rfl) ?_
    refine lv_aload_n hx hb dX1_way_10 rfl (lv_at hl 0 rfl) ?_
    refine va_get (D := (dC, dI)) (ci := 2) (v := .int fn) (C := RX1) (T := TX1) (N := 17) hx hb hts in_X1_way hown hK hP 0 rfl rfl 8 (by decide) (hts (.fieldLink RX1 116 "SignCutterModel" "found" "I") (by decide +kernel)) (fun _ h9 => h9) rfl dX1_way_11 ?_
    refine lv_icmp_ge (tgt := 31) hx hb dX1_way_14 (by decide) (fun c => ?_) (fun c => ?_)
    · have h := h.1 c
      refine lv_iconst (v := (-1)) hx hb dX1_way_31 (by decide) ?_
      refine lv_goto (tgt := 46) hx hb dX1_way_32 (by decide) ?_
      exact W.iret (v := (-1)) hx hb hr (hQ _ _ _ _ hP hD hS h) hS.2.2 dX1_way_46
    · have h := h.2 c
      refine lv_iload_n hx hb dX1_way_17 rfl (lv_at hl 2 rfl) ?_
      refine lv_if_lt (tgt := 31) hx hb dX1_way_18 (by decide) (fun c => ?_) (fun c => ?_)
      · have h := h.1 c
        refine lv_iconst (v := (-1)) hx hb dX1_way_31 (by decide) ?_
        refine lv_goto (tgt := 46) hx hb dX1_way_32 (by decide) ?_
        exact W.iret (v := (-1)) hx hb hr (hQ _ _ _ _ hP hD hS h) hS.2.2 dX1_way_46
      · have h := h.2 c
        refine lv_iload_n hx hb dX1_way_21 rfl (lv_at hl 2 rfl) ?_
        refine lv_aload_n hx hb dX1_way_22 rfl (lv_at hl 0 rfl) ?_
        refine va_get (D := (dC, dI)) (ci := 2) (v := .ref (ad 7)) (C := RX1) (T := TX1) (N := 17) hx hb hts in_X1_way hown hK hP 0 rfl rfl 10 (by decide) (hts (.fieldLink RX1 30 "SignCutterModel" "lengths" "[I") (by decide +kernel)) (fun _ h9 => h9) rfl dX1_way_23 ?_
        refine lv_iload_n hx hb dX1_way_26 rfl (lv_at hl 1 rfl) ?_
        refine z_iald hx hb hK hP 7 6 rfl rfl h dX1_way_27 (fun j_1 h => ?_)
        refine lv_icmp_lt (tgt := 35) hx hb dX1_way_28 (by decide) (fun c => ?_) (fun c => ?_)
        · have h := h.1 c
          refine lv_aload_n hx hb dX1_way_35 rfl (lv_at hl 0 rfl) ?_
          refine va_get (D := (dC, dI)) (ci := 2) (v := .ref (ad 8)) (C := RX1) (T := TX1) (N := 17) hx hb hts in_X1_way hown hK hP 0 rfl rfl 11 (by decide) (hts (.fieldLink RX1 33 "SignCutterModel" "ways" "[I") (by decide +kernel)) (fun _ h9 => h9) rfl dX1_way_36 ?_
          refine lv_bipush (v := 62) hx hb dX1_way_39 (by decide) ?_
          refine lv_iload_n hx hb dX1_way_41 rfl (lv_at hl 1 rfl) ?_
          refine lv_imul hx hb dX1_way_42 ?_
          refine lv_iload_n hx hb dX1_way_43 rfl (lv_at hl 2 rfl) ?_
          refine lv_iadd hx hb dX1_way_44 ?_
          refine z_iald hx hb hK hP 8 7 rfl rfl h dX1_way_45 (fun j_2 h => ?_)
          exact W.iret (v := (wy j_2)) hx hb hr (hQ _ _ _ _ hP hD hS h) hS.2.2 dX1_way_46
        · have h := h.2 c
          refine lv_iconst (v := (-1)) hx hb dX1_way_31 (by decide) ?_
          refine lv_goto (tgt := 46) hx hb dX1_way_32 (by decide) ?_
          exact W.iret (v := (-1)) hx hb hr (hQ _ _ _ _ hP hD hS h) hS.2.2 dX1_way_46
theorem in_X1_cost : ∀ w ∈ wsX10, w ∈ wsX1_cost := by decide +kernel
set_option maxHeartbeats 4000000 in
set_option maxRecDepth 100000 in
theorem mX1_cost (l : Launch) {dC : Nat → ClassId} {dI : Nat → Nat → Nat} {ad : Nat → Nat} {cA : Nat → ClassId} {nW : Nat} {nH : Nat} {th : Int32} {fn : Int32} {wd : Int32} {dk : Nat → Int32} {mn : Nat → Int32} {cs : Nat → Int64} {nx : Nat → Int32} {gs : Nat → Int32} {pr : Nat → Int64} {ln : Nat → Int32} {wy : Nat → Int32} {ct : Nat → Int64} {bf : Nat → Int64} {sg : Nat → Int64} {my : Nat → Int32} {sz : Nat} {a1 : Int32} {Post : Int64 → (Int32) → Prop} (h : wX1_cost fn pr th a1 Post) : Met l yX1_cost wsX1_cost ({ frames := 0, cells := 0, slots := 0, locals := 0 } : Room) (zPw (dC, dI) vwCl (tX1 cA) (wX1 ad cA nW nH th fn wd dk mn cs nx gs pr ln wy ct bf sg my) sz [.ref (ad 0), .int a1]) (va_Ql (S := (Int32)) (fun (r : Int64) (u : (Int32)) => Post r u) (zB (dC, dI) vwCl (tX1 cA) (wX1 ad cA nW nH th fn wd dk mn cs nx gs pr ln wy ct bf sg my) sz (fun u : (Int32) => wX1 ad cA nW nH u fn wd dk mn cs nx gs pr ln wy ct bf sg my)) (va_A (wX1 ad cA nW nH th fn wd dk mn cs nx gs pr ln wy ct bf sg my) sz)) 0 0 (va_A (wX1 ad cA nW nH th fn wd dk mn cs nx gs pr ln wy ct bf sg my) sz) := by
  refine Met.ofW (cc := cX1_cost) (maxL := 2) (ret := (some .long)) (by decide) rfl ?_
  intro p e s m args below meth c s₁ B hml hv
  obtain ⟨rfl, hsz, hP, hK, hD0⟩ := hv
  have hC : zC p s m [.ref (ad 0), .int a1].toArray meth c cX1_cost wsX1_cost (some .long) 2 RX1 := ⟨B.exec, B.bytes, B.returns, hml, findClass_of_methodNamed B.named, atoms_spec (ws := wsX1_cost) B.pre, B.notSynchronized⟩
  have hC0 := hC
  obtain ⟨hx, hb, hr, hml, hown, hts, hlocks⟩ := hC
  subst hsz
  have hD := hD0.self (sz := s.heap.size)
  have hA : ∀ q : Nat, s.heap.size ≤ q → va_A (wX1 ad cA nW nH th fn wd dk mn cs nx gs pr ln wy ct bf sg my) s.heap.size q := fun q h => Or.inr h
  have hS : va_S (va_A (wX1 ad cA nW nH th fn wd dk mn cs nx gs pr ln wy ct bf sg my) s.heap.size) s.heap s.heap [] := va_S.rf
  generalize hQe : (va_Ql (S := (Int32)) (fun (r : Int64) (u : (Int32)) => Post r u) (zB (dC, dI) vwCl (tX1 cA) (wX1 ad cA nW nH th fn wd dk mn cs nx gs pr ln wy ct bf sg my) s.heap.size (fun u : (Int32) => wX1 ad cA nW nH u fn wd dk mn cs nx gs pr ln wy ct bf sg my)) (va_A (wX1 ad cA nW nH th fn wd dk mn cs nx gs pr ln wy ct bf sg my) s.heap.size)) = Qc
  generalize hAe : va_A (wX1 ad cA nW nH th fn wd dk mn cs nx gs pr ln wy ct bf sg my) s.heap.size = A at hD hA hS hQe ⊢
  have hQ : ∀ (r : Int64) (th : Int32) (H : Heap) (locs : List Loc), va_P (dC, dI) vwCl (wX1 ad cA nW nH th fn wd dk mn cs nx gs pr ln wy ct bf sg my) H → va_D A (wX1 ad cA nW nH th fn wd dk mn cs nx gs pr ln wy ct bf sg my) → va_S A s.heap H locs → Post r th → ∀ t : State, t.heap = H → s.WarmedH t.vm → Qc [.ref (ad 0), .int a1].toArray s (.returned (some (.long r))) t := by
    intro r th H locs hP hD hS h t ht hW
    rw [← hQe]
    exact ⟨⟨r, th, rfl, h, by rw [ht]; exact hP, va_K.moved hW.alike hK, hAe ▸ hD⟩, hS.F ht⟩
  clear hQe hAe
  have hl := lv_entry ([.ref (ad 0), .int a1]) (n := 2) (Nat.le_of_ble_eq_true rfl)
  rw [lg_entry_eq]
  generalize (lg_sl ([.ref (ad 0), .int a1]) ++ List.replicate (2 - (lg_sl ([.ref (ad 0), .int a1])).length) Slot.unset).toArray = ls at hl ⊢
  have hl : lv_has ls 2 [(0, .ref (ad 0)), (1, .int a1)] := hl
  show W p l e ({ frames := 0, cells := 0, slots := 0, locals := 0 } : Room) s m _ below meth c s.heap [] 0 0 (MQ below Qc _ s 0 0 A) (F0 m 0 ls [])
  unfold wX1_cost at h
  refine lv_aload_n hx hb dX1_cost_0 rfl (lv_at hl 0 rfl) ?_
  refine lv_iconst (v := 0) hx hb dX1_cost_1 (by decide) ?_
  refine va_put (D := (dC, dI)) (ci := 2) (v := .int 0) (ty := .int) (C := RX1) (T := TX1) (N := 17) hx hb hts in_X1_cost tyX1 tyX1_ok nmX1 hown hK hP hD hS 0 rfl rfl 0 (by decide) (hts (.fieldLink RX1 55 "SignCutterModel" "thrown" "I") (by decide +kernel)) (fun _ h9 => h9) rfl (by decide +kernel) rfl rfl (Nat.le_of_ble_eq_true rfl) dX1_cost_2 (fun H locs hP hD hS => ?_)
  have hP : va_P (dC, dI) vwCl (wX1 ad cA nW nH 0 fn wd dk mn cs nx gs pr ln wy ct bf sg my) H := hP
  have hD : va_D A (wX1 ad cA nW nH 0 fn wd dk mn cs nx gs pr ln wy ct bf sg my) := hD
  refine lv_iload_n hx hb dX1_cost_5 rfl (lv_at hl 1 rfl) ?_
  refine lv_if_lt (tgt := 17) hx hb dX1_cost_6 (by decide) (fun c => ?_) (fun c => ?_)
  · have h := h.1 c
    refine lv_ldc2 hx hb hown (hts (.constantLong RX1 83 (-1)) (by decide +kernel)) dX1_cost_17 ?_
    refine lv_goto (tgt := 29) hx hb dX1_cost_20 (by decide) ?_
    exact W.lret (v := (-1)) hx hb hr (hQ _ _ _ _ hP hD hS h) hS.2.2 dX1_cost_29
  · have h := h.2 c
    refine lv_iload_n hx hb dX1_cost_9 rfl (lv_at hl 1 rfl) ?_
    refine lv_aload_n hx hb dX1_cost_10 rfl (lv_at hl 0 rfl) ?_
    refine va_get (D := (dC, dI)) (ci := 2) (v := .int fn) (C := RX1) (T := TX1) (N := 17) hx hb hts in_X1_cost hown hK hP 0 rfl rfl 8 (by decide) (hts (.fieldLink RX1 116 "SignCutterModel" "found" "I") (by decide +kernel)) (fun _ h9 => h9) rfl dX1_cost_11 ?_
    refine lv_icmp_lt (tgt := 23) hx hb dX1_cost_14 (by decide) (fun c => ?_) (fun c => ?_)
    · have h := h.1 c
      refine lv_aload_n hx hb dX1_cost_23 rfl (lv_at hl 0 rfl) ?_
      refine va_get (D := (dC, dI)) (ci := 2) (v := .ref (ad 6)) (C := RX1) (T := TX1) (N := 17) hx hb hts in_X1_cost hown hK hP 0 rfl rfl 9 (by decide) (hts (.fieldLink RX1 27 "SignCutterModel" "prices" "[J") (by decide +kernel)) (fun _ h9 => h9) rfl dX1_cost_24 ?_
      refine lv_iload_n hx hb dX1_cost_27 rfl (lv_at hl 1 rfl) ?_
      refine z_lald hx hb hK hP 6 5 rfl rfl h dX1_cost_28 (fun j_1 h => ?_)
      exact W.lret (v := (pr j_1)) hx hb hr (hQ _ _ _ _ hP hD hS h) hS.2.2 dX1_cost_29
    · have h := h.2 c
      refine lv_ldc2 hx hb hown (hts (.constantLong RX1 83 (-1)) (by decide +kernel)) dX1_cost_17 ?_
      refine lv_goto (tgt := 29) hx hb dX1_cost_20 (by decide) ?_
      exact W.lret (v := (-1)) hx hb hr (hQ _ _ _ _ hP hD hS h) hS.2.2 dX1_cost_29
theorem in_X1_signs : ∀ w ∈ wsX10, w ∈ wsX1_signs := by decide +kernel
set_option maxHeartbeats 4000000 in
set_option maxRecDepth 100000 in
theorem mX1_signs (l : Launch) {dC : Nat → ClassId} {dI : Nat → Nat → Nat} {ad : Nat → Nat} {cA : Nat → ClassId} {nW : Nat} {nH : Nat} {th : Int32} {fn : Int32} {wd : Int32} {dk : Nat → Int32} {mn : Nat → Int32} {cs : Nat → Int64} {nx : Nat → Int32} {gs : Nat → Int32} {pr : Nat → Int64} {ln : Nat → Int32} {wy : Nat → Int32} {ct : Nat → Int64} {bf : Nat → Int64} {sg : Nat → Int64} {my : Nat → Int32} {sz : Nat} {a1 : Int32} {Post : Int32 → (Int32) → Prop} (h : wX1_signs fn ln th a1 Post) : Met l yX1_signs wsX1_signs ({ frames := 0, cells := 0, slots := 0, locals := 0 } : Room) (zPw (dC, dI) vwCl (tX1 cA) (wX1 ad cA nW nH th fn wd dk mn cs nx gs pr ln wy ct bf sg my) sz [.ref (ad 0), .int a1]) (va_Qi (S := (Int32)) (fun (r : Int32) (u : (Int32)) => Post r u) (zB (dC, dI) vwCl (tX1 cA) (wX1 ad cA nW nH th fn wd dk mn cs nx gs pr ln wy ct bf sg my) sz (fun u : (Int32) => wX1 ad cA nW nH u fn wd dk mn cs nx gs pr ln wy ct bf sg my)) (va_A (wX1 ad cA nW nH th fn wd dk mn cs nx gs pr ln wy ct bf sg my) sz)) 0 0 (va_A (wX1 ad cA nW nH th fn wd dk mn cs nx gs pr ln wy ct bf sg my) sz) := by
  refine Met.ofW (cc := cX1_signs) (maxL := 2) (ret := (some .int)) (by decide) rfl ?_
  intro p e s m args below meth c s₁ B hml hv
  obtain ⟨rfl, hsz, hP, hK, hD0⟩ := hv
  have hC : zC p s m [.ref (ad 0), .int a1].toArray meth c cX1_signs wsX1_signs (some .int) 2 RX1 := ⟨B.exec, B.bytes, B.returns, hml, findClass_of_methodNamed B.named, atoms_spec (ws := wsX1_signs) B.pre, B.notSynchronized⟩
  have hC0 := hC
  obtain ⟨hx, hb, hr, hml, hown, hts, hlocks⟩ := hC
  subst hsz
  have hD := hD0.self (sz := s.heap.size)
  have hA : ∀ q : Nat, s.heap.size ≤ q → va_A (wX1 ad cA nW nH th fn wd dk mn cs nx gs pr ln wy ct bf sg my) s.heap.size q := fun q h => Or.inr h
  have hS : va_S (va_A (wX1 ad cA nW nH th fn wd dk mn cs nx gs pr ln wy ct bf sg my) s.heap.size) s.heap s.heap [] := va_S.rf
  generalize hQe : (va_Qi (S := (Int32)) (fun (r : Int32) (u : (Int32)) => Post r u) (zB (dC, dI) vwCl (tX1 cA) (wX1 ad cA nW nH th fn wd dk mn cs nx gs pr ln wy ct bf sg my) s.heap.size (fun u : (Int32) => wX1 ad cA nW nH u fn wd dk mn cs nx gs pr ln wy ct bf sg my)) (va_A (wX1 ad cA nW nH th fn wd dk mn cs nx gs pr ln wy ct bf sg my) s.heap.size)) = Qc
  generalize hAe : va_A (wX1 ad cA nW nH th fn wd dk mn cs nx gs pr ln wy ct bf sg my) s.heap.size = A at hD hA hS hQe ⊢
  have hQ : ∀ (r : Int32) (th : Int32) (H : Heap) (locs : List Loc), va_P (dC, dI) vwCl (wX1 ad cA nW nH th fn wd dk mn cs nx gs pr ln wy ct bf sg my) H → va_D A (wX1 ad cA nW nH th fn wd dk mn cs nx gs pr ln wy ct bf sg my) → va_S A s.heap H locs → Post r th → ∀ t : State, t.heap = H → s.WarmedH t.vm → Qc [.ref (ad 0), .int a1].toArray s (.returned (some (.int r))) t := by
    intro r th H locs hP hD hS h t ht hW
    rw [← hQe]
    exact ⟨⟨r, th, rfl, h, by rw [ht]; exact hP, va_K.moved hW.alike hK, hAe ▸ hD⟩, hS.F ht⟩
  clear hQe hAe
  have hl := lv_entry ([.ref (ad 0), .int a1]) (n := 2) (Nat.le_of_ble_eq_true rfl)
  rw [lg_entry_eq]
  generalize (lg_sl ([.ref (ad 0), .int a1]) ++ List.replicate (2 - (lg_sl ([.ref (ad 0), .int a1])).length) Slot.unset).toArray = ls at hl ⊢
  have hl : lv_has ls 2 [(0, .ref (ad 0)), (1, .int a1)] := hl
  show W p l e ({ frames := 0, cells := 0, slots := 0, locals := 0 } : Room) s m _ below meth c s.heap [] 0 0 (MQ below Qc _ s 0 0 A) (F0 m 0 ls [])
  unfold wX1_signs at h
  refine lv_aload_n hx hb dX1_signs_0 rfl (lv_at hl 0 rfl) ?_
  refine lv_iconst (v := 0) hx hb dX1_signs_1 (by decide) ?_
  refine va_put (D := (dC, dI)) (ci := 2) (v := .int 0) (ty := .int) (C := RX1) (T := TX1) (N := 17) hx hb hts in_X1_signs tyX1 tyX1_ok nmX1 hown hK hP hD hS 0 rfl rfl 0 (by decide) (hts (.fieldLink RX1 55 "SignCutterModel" "thrown" "I") (by decide +kernel)) (fun _ h9 => h9) rfl (by decide +kernel) rfl rfl (Nat.le_of_ble_eq_true rfl) dX1_signs_2 (fun H locs hP hD hS => ?_)
  have hP : va_P (dC, dI) vwCl (wX1 ad cA nW nH 0 fn wd dk mn cs nx gs pr ln wy ct bf sg my) H := hP
  have hD : va_D A (wX1 ad cA nW nH 0 fn wd dk mn cs nx gs pr ln wy ct bf sg my) := hD
  refine lv_iload_n hx hb dX1_signs_5 rfl (lv_at hl 1 rfl) ?_
  refine lv_if_lt (tgt := 17) hx hb dX1_signs_6 (by decide) (fun c => ?_) (fun c => ?_)
  · have h := h.1 c
    refine lv_iconst (v := (-1)) hx hb dX1_signs_17 (by decide) ?_
    refine lv_goto (tgt := 29) hx hb dX1_signs_18 (by decide) ?_
    exact W.iret (v := (-1)) hx hb hr (hQ _ _ _ _ hP hD hS h) hS.2.2 dX1_signs_29
  · have h := h.2 c
    refine lv_iload_n hx hb dX1_signs_9 rfl (lv_at hl 1 rfl) ?_
    refine lv_aload_n hx hb dX1_signs_10 rfl (lv_at hl 0 rfl) ?_
    refine va_get (D := (dC, dI)) (ci := 2) (v := .int fn) (C := RX1) (T := TX1) (N := 17) hx hb hts in_X1_signs hown hK hP 0 rfl rfl 8 (by decide) (hts (.fieldLink RX1 116 "SignCutterModel" "found" "I") (by decide +kernel)) (fun _ h9 => h9) rfl dX1_signs_11 ?_
    refine lv_icmp_lt (tgt := 21) hx hb dX1_signs_14 (by decide) (fun c => ?_) (fun c => ?_)
    · have h := h.1 c
      refine lv_aload_n hx hb dX1_signs_21 rfl (lv_at hl 0 rfl) ?_
      refine va_get (D := (dC, dI)) (ci := 2) (v := .ref (ad 7)) (C := RX1) (T := TX1) (N := 17) hx hb hts in_X1_signs hown hK hP 0 rfl rfl 10 (by decide) (hts (.fieldLink RX1 30 "SignCutterModel" "lengths" "[I") (by decide +kernel)) (fun _ h9 => h9) rfl dX1_signs_22 ?_
      refine lv_iload_n hx hb dX1_signs_25 rfl (lv_at hl 1 rfl) ?_
      refine z_iald hx hb hK hP 7 6 rfl rfl h dX1_signs_26 (fun j_1 h => ?_)
      refine lv_iconst (v := 1) hx hb dX1_signs_27 (by decide) ?_
      refine lv_isub hx hb dX1_signs_28 ?_
      exact W.iret (v := ((ln j_1) - 1)) hx hb hr (hQ _ _ _ _ hP hD hS h) hS.2.2 dX1_signs_29
    · have h := h.2 c
      refine lv_iconst (v := (-1)) hx hb dX1_signs_17 (by decide) ?_
      refine lv_goto (tgt := 29) hx hb dX1_signs_18 (by decide) ?_
      exact W.iret (v := (-1)) hx hb hr (hQ _ _ _ _ hP hD hS h) hS.2.2 dX1_signs_29
theorem in_X1_base : ∀ w ∈ wsX10, w ∈ wsX1_base := by decide +kernel
set_option maxHeartbeats 4000000 in
set_option maxRecDepth 100000 in
theorem tX1_base_89 {p : Program} {l : Launch} {e : Env} {s : State} {m : MethodId} {args : Array Value} {below : List Frame} {meth : Method} {c : Code} {dC : Nat → ClassId} {dI : Nat → Nat → Nat} {ad : Nat → Nat} {cA : Nat → ClassId} {nW : Nat} {nH : Nat} {fn : Int32} {wd : Int32} {dk : Nat → Int32} {mn : Nat → Int32} {cs : Nat → Int64} {nx : Nat → Int32} {gs : Nat → Int32} {pr : Nat → Int64} {ln : Nat → Int32} {wy : Nat → Int32} {ct : Nat → Int64} {bf : Nat → Int64} {sg : Nat → Int64} {my : Nat → Int32} {a1 : Int32} {Post : Int32 → (Int32) → Prop} (hC : zC p s m args meth c cX1_base wsX1_base (some .int) 4 RX1) (hK : va_K (dC, dI) vwCl (tX1 cA) s) {A : Nat → Prop} (hA : ∀ q, s.heap.size ≤ q → A q) {Qc : Array Value → State → Outcome → State → Prop} (hQ : ∀ (r : Int32) (th : Int32) (H : Heap) (locs : List Loc), va_P (dC, dI) vwCl (wX1 ad cA nW nH th fn wd dk mn cs nx gs pr ln wy ct bf sg my) H → va_D A (wX1 ad cA nW nH th fn wd dk mn cs nx gs pr ln wy ct bf sg my) → va_S A s.heap H locs → Post r th → ∀ t : State, t.heap = H → s.WarmedH t.vm → Qc args s (.returned (some (.int r))) t) : ∀ (n : Nat), ∀ (x2 : Int32) (x3 : Int32) (th : Int32) (H : Heap) (locs : List Loc), va_P (dC, dI) vwCl (wX1 ad cA nW nH th fn wd dk mn cs nx gs pr ln wy ct bf sg my) H → va_D A (wX1 ad cA nW nH th fn wd dk mn cs nx gs pr ln wy ct bf sg my) → va_S A s.heap H locs → ∀ (ls : Array Slot), lv_has ls 4 [(0, .ref (ad 0)), (1, .int a1), (2, .int x2), (3, .int x3)] → lX1_base_89 nW nH dk a1 Post n x2 x3 th → W p l e ({ frames := 5, cells := 0, slots := 0, locals := 109 } : Room) s m args below meth c H locs 0 0 (MQ below Qc args s 0 0 A) (F0 m 89 ls []) := by
  have hC0 := hC
  obtain ⟨hx, hb, hr, hml, hown, hts, hlocks⟩ := hC
  intro n
  induction n with
  | zero =>
    intro x2 x3 th H locs hP hD hS ls hl h
    exact h.elim
  | succ n hr89 =>
    intro x2 x3 th H locs hP hD hS ls hl h
    have h : bX1_base_89 nW nH dk a1 Post (lX1_base_89 nW nH dk a1 Post n) x2 x3 th := h
    unfold bX1_base_89 at h
    refine lv_iload_n hx hb dX1_base_89 rfl (lv_at hl 3 rfl) ?_
    refine lv_aload_n hx hb dX1_base_90 rfl (lv_at hl 0 rfl) ?_
    refine z_cVi (ci := 2) (As := []) (rest := [.int x3]) ⟨hx, hb, hml, hown, hts⟩ (mX1_until l h) (cwV 0 hts gX1_base_X1_until rfl rfl rfl (by decide +kernel) ⟨Nat.le_of_ble_eq_true rfl, Nat.le_of_ble_eq_true rfl⟩) hK hP 0 rfl rfl rfl rfl hl.1 rfl (Nat.le_of_ble_eq_true rfl) dX1_base_91 ⟨Nat.le_of_ble_eq_true rfl, Nat.le_of_ble_eq_true rfl⟩ (fun r_4 h => ?_)
    refine lv_icmp_ge (tgt := 119) hx hb dX1_base_94 (by decide) (fun c => ?_) (fun c => ?_)
    · have h := h.1 c
      refine lv_iload_n hx hb dX1_base_119 rfl (lv_at hl 2 rfl) ?_
      exact W.iret (v := x2) hx hb hr (hQ _ _ _ _ hP hD hS h) hS.2.2 dX1_base_120
    · have h := h.2 c
      refine lv_aload_n hx hb dX1_base_97 rfl (lv_at hl 0 rfl) ?_
      refine lv_iload_n hx hb dX1_base_98 rfl (lv_at hl 3 rfl) ?_
      refine z_cVi (ci := 2) (As := [.int x3]) (rest := []) ⟨hx, hb, hml, hown, hts⟩ (mX1_mayCut l h) (cwV 1 hts gX1_base_X1_mayCut rfl rfl rfl (by decide +kernel) ⟨Nat.le_of_ble_eq_true rfl, Nat.le_of_ble_eq_true rfl⟩) hK hP 0 rfl rfl rfl rfl hl.1 rfl (Nat.le_of_ble_eq_true rfl) dX1_base_99 ⟨Nat.le_of_ble_eq_true rfl, Nat.le_of_ble_eq_true rfl⟩ (fun r_5 h => ?_)
      refine lv_if_eq (tgt := 111) hx hb dX1_base_102 (by decide) (fun c => ?_) (fun c => ?_)
      · have h := h.1 c
        refine lv_iload_n hx hb dX1_base_111 rfl (lv_at hl 2 rfl) ?_
        refine lv_istore_n (lv' := [(2, .int x2), (0, .ref (ad 0)), (1, .int a1), (3, .int x3)]) hx hb dX1_base_112 rfl hl (by decide) rfl (fun ls hl => ?_)
        refine lv_iinc (v := (x3 + 1)) (lv' := [(3, .int (x3 + 1)), (2, .int x2), (0, .ref (ad 0)), (1, .int a1)]) hx hb dX1_base_113 hl (k := 3) rfl rfl (by decide) rfl (fun ls hl => ?_)
        refine lv_goto (tgt := 89) hx hb dX1_base_116 (by decide) ?_
        exact hr89 _ _ _ _ _ hP hD hS ls (lv_sub hl [2, 3, 1, 0] rfl) h
      · have h := h.2 c
        refine lv_iload_n hx hb dX1_base_105 rfl (lv_at hl 2 rfl) ?_
        refine lv_iconst (v := 1) hx hb dX1_base_106 (by decide) ?_
        refine lv_iadd hx hb dX1_base_107 ?_
        refine lv_goto (tgt := 112) hx hb dX1_base_108 (by decide) ?_
        refine lv_topi (fun x2_6 ex2_6 => ?_)
        have h := h x2_6 ex2_6
        refine lv_istore_n (lv' := [(2, .int x2_6), (0, .ref (ad 0)), (1, .int a1), (3, .int x3)]) hx hb dX1_base_112 rfl hl (by decide) rfl (fun ls hl => ?_)
        refine lv_iinc (v := (x3 + 1)) (lv' := [(3, .int (x3 + 1)), (2, .int x2_6), (0, .ref (ad 0)), (1, .int a1)]) hx hb dX1_base_113 hl (k := 3) rfl rfl (by decide) rfl (fun ls hl => ?_)
        refine lv_goto (tgt := 89) hx hb dX1_base_116 (by decide) ?_
        exact hr89 _ _ _ _ _ hP hD hS ls (lv_sub hl [2, 3, 1, 0] rfl) h
set_option maxHeartbeats 4000000 in
set_option maxRecDepth 100000 in
theorem mX1_base (l : Launch) {dC : Nat → ClassId} {dI : Nat → Nat → Nat} {ad : Nat → Nat} {cA : Nat → ClassId} {nW : Nat} {nH : Nat} {th : Int32} {fn : Int32} {wd : Int32} {dk : Nat → Int32} {mn : Nat → Int32} {cs : Nat → Int64} {nx : Nat → Int32} {gs : Nat → Int32} {pr : Nat → Int64} {ln : Nat → Int32} {wy : Nat → Int32} {ct : Nat → Int64} {bf : Nat → Int64} {sg : Nat → Int64} {my : Nat → Int32} {sz : Nat} {a1 : Int32} {Post : Int32 → (Int32) → Prop} (h : wX1_base nW nH dk th a1 Post) : Met l yX1_base wsX1_base ({ frames := 5, cells := 0, slots := 0, locals := 109 } : Room) (zPw (dC, dI) vwCl (tX1 cA) (wX1 ad cA nW nH th fn wd dk mn cs nx gs pr ln wy ct bf sg my) sz [.ref (ad 0), .int a1]) (va_Qi (S := (Int32)) (fun (r : Int32) (u : (Int32)) => Post r u) (zB (dC, dI) vwCl (tX1 cA) (wX1 ad cA nW nH th fn wd dk mn cs nx gs pr ln wy ct bf sg my) sz (fun u : (Int32) => wX1 ad cA nW nH u fn wd dk mn cs nx gs pr ln wy ct bf sg my)) (va_A (wX1 ad cA nW nH th fn wd dk mn cs nx gs pr ln wy ct bf sg my) sz)) 0 0 (va_A (wX1 ad cA nW nH th fn wd dk mn cs nx gs pr ln wy ct bf sg my) sz) := by
  refine Met.ofW (cc := cX1_base) (maxL := 4) (ret := (some .int)) (by decide) rfl ?_
  intro p e s m args below meth c s₁ B hml hv
  obtain ⟨rfl, hsz, hP, hK, hD0⟩ := hv
  have hC : zC p s m [.ref (ad 0), .int a1].toArray meth c cX1_base wsX1_base (some .int) 4 RX1 := ⟨B.exec, B.bytes, B.returns, hml, findClass_of_methodNamed B.named, atoms_spec (ws := wsX1_base) B.pre, B.notSynchronized⟩
  have hC0 := hC
  obtain ⟨hx, hb, hr, hml, hown, hts, hlocks⟩ := hC
  subst hsz
  have hD := hD0.self (sz := s.heap.size)
  have hA : ∀ q : Nat, s.heap.size ≤ q → va_A (wX1 ad cA nW nH th fn wd dk mn cs nx gs pr ln wy ct bf sg my) s.heap.size q := fun q h => Or.inr h
  have hS : va_S (va_A (wX1 ad cA nW nH th fn wd dk mn cs nx gs pr ln wy ct bf sg my) s.heap.size) s.heap s.heap [] := va_S.rf
  generalize hQe : (va_Qi (S := (Int32)) (fun (r : Int32) (u : (Int32)) => Post r u) (zB (dC, dI) vwCl (tX1 cA) (wX1 ad cA nW nH th fn wd dk mn cs nx gs pr ln wy ct bf sg my) s.heap.size (fun u : (Int32) => wX1 ad cA nW nH u fn wd dk mn cs nx gs pr ln wy ct bf sg my)) (va_A (wX1 ad cA nW nH th fn wd dk mn cs nx gs pr ln wy ct bf sg my) s.heap.size)) = Qc
  generalize hAe : va_A (wX1 ad cA nW nH th fn wd dk mn cs nx gs pr ln wy ct bf sg my) s.heap.size = A at hD hA hS hQe ⊢
  have hQ : ∀ (r : Int32) (th : Int32) (H : Heap) (locs : List Loc), va_P (dC, dI) vwCl (wX1 ad cA nW nH th fn wd dk mn cs nx gs pr ln wy ct bf sg my) H → va_D A (wX1 ad cA nW nH th fn wd dk mn cs nx gs pr ln wy ct bf sg my) → va_S A s.heap H locs → Post r th → ∀ t : State, t.heap = H → s.WarmedH t.vm → Qc [.ref (ad 0), .int a1].toArray s (.returned (some (.int r))) t := by
    intro r th H locs hP hD hS h t ht hW
    rw [← hQe]
    exact ⟨⟨r, th, rfl, h, by rw [ht]; exact hP, va_K.moved hW.alike hK, hAe ▸ hD⟩, hS.F ht⟩
  clear hQe hAe
  have hl := lv_entry ([.ref (ad 0), .int a1]) (n := 4) (Nat.le_of_ble_eq_true rfl)
  rw [lg_entry_eq]
  generalize (lg_sl ([.ref (ad 0), .int a1]) ++ List.replicate (4 - (lg_sl ([.ref (ad 0), .int a1])).length) Slot.unset).toArray = ls at hl ⊢
  have hl : lv_has ls 4 [(0, .ref (ad 0)), (1, .int a1)] := hl
  show W p l e ({ frames := 5, cells := 0, slots := 0, locals := 109 } : Room) s m _ below meth c s.heap [] 0 0 (MQ below Qc _ s 0 0 A) (F0 m 0 ls [])
  unfold wX1_base at h
  refine lv_aload_n hx hb dX1_base_0 rfl (lv_at hl 0 rfl) ?_
  refine lv_iconst (v := 0) hx hb dX1_base_1 (by decide) ?_
  refine va_put (D := (dC, dI)) (ci := 2) (v := .int 0) (ty := .int) (C := RX1) (T := TX1) (N := 17) hx hb hts in_X1_base tyX1 tyX1_ok nmX1 hown hK hP hD hS 0 rfl rfl 0 (by decide) (hts (.fieldLink RX1 55 "SignCutterModel" "thrown" "I") (by decide +kernel)) (fun _ h9 => h9) rfl (by decide +kernel) rfl rfl (Nat.le_of_ble_eq_true rfl) dX1_base_2 (fun H locs hP hD hS => ?_)
  have hP : va_P (dC, dI) vwCl (wX1 ad cA nW nH 0 fn wd dk mn cs nx gs pr ln wy ct bf sg my) H := hP
  have hD : va_D A (wX1 ad cA nW nH 0 fn wd dk mn cs nx gs pr ln wy ct bf sg my) := hD
  refine lv_aload_n hx hb dX1_base_5 rfl (lv_at hl 0 rfl) ?_
  refine z_cVi (ci := 2) (As := []) (rest := []) ⟨hx, hb, hml, hown, hts⟩ (mX1_mostInRow l h) (cwV 0 hts gX1_base_X1_mostInRow rfl rfl rfl (by decide +kernel) ⟨Nat.le_of_ble_eq_true rfl, Nat.le_of_ble_eq_true rfl⟩) hK hP 0 rfl rfl rfl rfl hl.1 rfl (Nat.le_of_ble_eq_true rfl) dX1_base_6 ⟨Nat.le_of_ble_eq_true rfl, Nat.le_of_ble_eq_true rfl⟩ (fun r_1 h => ?_)
  refine lv_if_eq (tgt := 21) hx hb dX1_base_9 (by decide) (fun c => ?_) (fun c => ?_)
  · have h := h.1 c
    refine lv_iconst (v := (-1)) hx hb dX1_base_21 (by decide) ?_
    exact W.iret (v := (-1)) hx hb hr (hQ _ _ _ _ hP hD hS h) hS.2.2 dX1_base_22
  · have h := h.2 c
    refine lv_iload_n hx hb dX1_base_12 rfl (lv_at hl 1 rfl) ?_
    refine lv_if_lt (tgt := 21) hx hb dX1_base_13 (by decide) (fun c => ?_) (fun c => ?_)
    · have h := h.1 c
      refine lv_iconst (v := (-1)) hx hb dX1_base_21 (by decide) ?_
      exact W.iret (v := (-1)) hx hb hr (hQ _ _ _ _ hP hD hS h) hS.2.2 dX1_base_22
    · have h := h.2 c
      refine lv_iload_n hx hb dX1_base_16 rfl (lv_at hl 1 rfl) ?_
      refine lv_iconst (v := 5) hx hb dX1_base_17 (by decide) ?_
      refine lv_icmp_le (tgt := 23) hx hb dX1_base_18 (by decide) (fun c => ?_) (fun c => ?_)
      · have h := h.1 c
        refine lv_iload_n hx hb dX1_base_23 rfl (lv_at hl 1 rfl) ?_
        refine lv_iconst (v := 5) hx hb dX1_base_24 (by decide) ?_
        refine lv_icmp_ge (tgt := 80) hx hb dX1_base_25 (by decide) (fun c => ?_) (fun c => ?_)
        · have h := h.1 c
          refine lv_iconst (v := 0) hx hb dX1_base_80 (by decide) ?_
          refine lv_istore_n (lv' := [(2, .int 0), (0, .ref (ad 0)), (1, .int a1)]) hx hb dX1_base_81 rfl hl (by decide) rfl (fun ls hl => ?_)
          refine lv_aload_n hx hb dX1_base_82 rfl (lv_at hl 1 rfl) ?_
          refine z_cVi (ci := 2) (As := []) (rest := []) ⟨hx, hb, hml, hown, hts⟩ (mX1_from l h) (cwV 0 hts gX1_base_X1_from rfl rfl rfl (by decide +kernel) ⟨Nat.le_of_ble_eq_true rfl, Nat.le_of_ble_eq_true rfl⟩) hK hP 0 rfl rfl rfl rfl hl.1 rfl (Nat.le_of_ble_eq_true rfl) dX1_base_83 ⟨Nat.le_of_ble_eq_true rfl, Nat.le_of_ble_eq_true rfl⟩ (fun r_2 h => ?_)
          refine lv_iconst (v := 1) hx hb dX1_base_86 (by decide) ?_
          refine lv_iadd hx hb dX1_base_87 ?_
          refine lv_topi (fun x3_3 ex3_3 => ?_)
          have h := h x3_3 ex3_3
          refine lv_istore_n (lv' := [(3, .int x3_3), (2, .int 0), (0, .ref (ad 0)), (1, .int a1)]) hx hb dX1_base_88 rfl hl (by decide) rfl (fun ls hl => ?_)
          obtain ⟨n_7, h⟩ := h
          exact tX1_base_89 hC0 hK hA hQ n_7 _ _ _ _ _ hP hD hS ls (lv_sub hl [2, 3, 1, 0] rfl) h
        · have h := h.2 c
          refine lv_iload_n hx hb dX1_base_28 rfl (lv_at hl 1 rfl) ?_
          refine lv_if_ne (tgt := 39) hx hb dX1_base_29 (by decide) (fun c => ?_) (fun c => ?_)
          · have h := h.2 c
            refine lv_iload_n hx hb dX1_base_39 rfl (lv_at hl 1 rfl) ?_
            refine lv_iconst (v := 1) hx hb dX1_base_40 (by decide) ?_
            refine lv_icmp_ne (tgt := 51) hx hb dX1_base_41 (by decide) (fun c => ?_) (fun c => ?_)
            · have h := h.2 c
              refine lv_iload_n hx hb dX1_base_51 rfl (lv_at hl 1 rfl) ?_
              refine lv_iconst (v := 2) hx hb dX1_base_52 (by decide) ?_
              refine lv_icmp_ne (tgt := 63) hx hb dX1_base_53 (by decide) (fun c => ?_) (fun c => ?_)
              · have h := h.2 c
                refine lv_iload_n hx hb dX1_base_63 rfl (lv_at hl 1 rfl) ?_
                refine lv_iconst (v := 3) hx hb dX1_base_64 (by decide) ?_
                refine lv_icmp_ne (tgt := 75) hx hb dX1_base_65 (by decide) (fun c => ?_) (fun c => ?_)
                · have h := h.2 c
                  refine lv_aload_n hx hb dX1_base_75 rfl (lv_at hl 0 rfl) ?_
                  refine z_cVi (ci := 2) (As := []) (rest := []) ⟨hx, hb, hml, hown, hts⟩ (mX1_until l h) (cwV 0 hts gX1_base_X1_until rfl rfl rfl (by decide +kernel) ⟨Nat.le_of_ble_eq_true rfl, Nat.le_of_ble_eq_true rfl⟩) hK hP 0 rfl rfl rfl rfl hl.1 rfl (Nat.le_of_ble_eq_true rfl) dX1_base_76 ⟨Nat.le_of_ble_eq_true rfl, Nat.le_of_ble_eq_true rfl⟩ (fun r_8 h => ?_)
                  exact W.iret (v := r_8) hx hb hr (hQ _ _ _ _ hP hD hS h) hS.2.2 dX1_base_79
                · have h := h.1 c
                  refine lv_aload_n hx hb dX1_base_68 rfl (lv_at hl 0 rfl) ?_
                  refine z_cVi (ci := 2) (As := []) (rest := []) ⟨hx, hb, hml, hown, hts⟩ (mX1_from l h) (cwV 0 hts gX1_base_X1_from rfl rfl rfl (by decide +kernel) ⟨Nat.le_of_ble_eq_true rfl, Nat.le_of_ble_eq_true rfl⟩) hK hP 0 rfl rfl rfl rfl hl.1 rfl (Nat.le_of_ble_eq_true rfl) dX1_base_69 ⟨Nat.le_of_ble_eq_true rfl, Nat.le_of_ble_eq_true rfl⟩ (fun r_9 h => ?_)
                  refine lv_goto (tgt := 79) hx hb dX1_base_72 (by decide) ?_
                  exact W.iret (v := r_9) hx hb hr (hQ _ _ _ _ hP hD hS h) hS.2.2 dX1_base_79
              · have h := h.1 c
                refine lv_aload_n hx hb dX1_base_56 rfl (lv_at hl 0 rfl) ?_
                refine z_cVi (ci := 2) (As := []) (rest := []) ⟨hx, hb, hml, hown, hts⟩ (mX1_due l h) (cwV 0 hts gX1_base_X1_due rfl rfl rfl (by decide +kernel) ⟨Nat.le_of_ble_eq_true rfl, Nat.le_of_ble_eq_true rfl⟩) hK hP 0 rfl rfl rfl rfl hl.1 rfl (Nat.le_of_ble_eq_true rfl) dX1_base_57 ⟨Nat.le_of_ble_eq_true rfl, Nat.le_of_ble_eq_true rfl⟩ (fun r_10 h => ?_)
                refine lv_goto (tgt := 79) hx hb dX1_base_60 (by decide) ?_
                exact W.iret (v := r_10) hx hb hr (hQ _ _ _ _ hP hD hS h) hS.2.2 dX1_base_79
            · have h := h.1 c
              refine lv_aload_n hx hb dX1_base_44 rfl (lv_at hl 0 rfl) ?_
              refine z_cVi (ci := 2) (As := []) (rest := []) ⟨hx, hb, hml, hown, hts⟩ (mX1_baseline l h) (cwV 0 hts gX1_base_X1_baseline rfl rfl rfl (by decide +kernel) ⟨Nat.le_of_ble_eq_true rfl, Nat.le_of_ble_eq_true rfl⟩) hK hP 0 rfl rfl rfl rfl hl.1 rfl (Nat.le_of_ble_eq_true rfl) dX1_base_45 ⟨Nat.le_of_ble_eq_true rfl, Nat.le_of_ble_eq_true rfl⟩ (fun r_11 h => ?_)
              refine lv_goto (tgt := 79) hx hb dX1_base_48 (by decide) ?_
              exact W.iret (v := r_11) hx hb hr (hQ _ _ _ _ hP hD hS h) hS.2.2 dX1_base_79
          · have h := h.1 c
            refine lv_aload_n hx hb dX1_base_32 rfl (lv_at hl 0 rfl) ?_
            refine z_cVi (ci := 2) (As := []) (rest := []) ⟨hx, hb, hml, hown, hts⟩ (mX1_middle l h) (cwV 0 hts gX1_base_X1_middle rfl rfl rfl (by decide +kernel) ⟨Nat.le_of_ble_eq_true rfl, Nat.le_of_ble_eq_true rfl⟩) hK hP 0 rfl rfl rfl rfl hl.1 rfl (Nat.le_of_ble_eq_true rfl) dX1_base_33 ⟨Nat.le_of_ble_eq_true rfl, Nat.le_of_ble_eq_true rfl⟩ (fun r_12 h => ?_)
            refine lv_goto (tgt := 79) hx hb dX1_base_36 (by decide) ?_
            exact W.iret (v := r_12) hx hb hr (hQ _ _ _ _ hP hD hS h) hS.2.2 dX1_base_79
      · have h := h.2 c
        refine lv_iconst (v := (-1)) hx hb dX1_base_21 (by decide) ?_
        exact W.iret (v := (-1)) hx hb hr (hQ _ _ _ _ hP hD hS h) hS.2.2 dX1_base_22
theorem in_X1_columns : ∀ w ∈ wsX10, w ∈ wsX1_columns := by decide +kernel
set_option maxHeartbeats 4000000 in
set_option maxRecDepth 100000 in
theorem tX1_columns_112 {p : Program} {l : Launch} {e : Env} {s : State} {m : MethodId} {args : Array Value} {below : List Frame} {meth : Method} {c : Code} {dC : Nat → ClassId} {dI : Nat → Nat → Nat} {ad : Nat → Nat} {cA : Nat → ClassId} {nW : Nat} {nH : Nat} {th : Int32} {fn : Int32} {wd : Int32} {dk : Nat → Int32} {mn : Nat → Int32} {cs : Nat → Int64} {nx : Nat → Int32} {gs : Nat → Int32} {pr : Nat → Int64} {ln : Nat → Int32} {wy : Nat → Int32} {ct : Nat → Int64} {bf : Nat → Int64} {sg : Nat → Int64} {my : Nat → Int32} {a1 : Int32} {Post : Int32 → Prop} (hC : zC p s m args meth c cX1_columns wsX1_columns (some .int) 8 RX1) (hK : va_K (dC, dI) vwCl (tX1 cA) s) (hP : va_P (dC, dI) vwCl (wX1 ad cA nW nH th fn wd dk mn cs nx gs pr ln wy ct bf sg my) s.heap) {r5 : Int32 → Int32 → Prop} (hr5 : ∀ (x2 : Int32) (x3 : Int32) (ls : Array Slot), lv_has ls 8 [(0, .ref (ad 0)), (1, .int a1), (2, .int x2), (3, .int x3)] → r5 x2 x3 → W p l e ({ frames := 1, cells := 0, slots := 0, locals := 22 } : Room) s m args below meth c s.heap [] 0 0 (MQ below (vp_Si Post) args s 0 0 (fun _ => False)) (F0 m 5 ls [])) : ∀ (x2 : Int32) (x3 : Int32) (x4 : Int32) (ls : Array Slot), lv_has ls 8 [(0, .ref (ad 0)), (1, .int a1), (2, .int x2), (3, .int x3), (4, .int x4)] → jX1_columns_112 nW nH dk a1 Post r5 x2 x3 x4 → W p l e ({ frames := 1, cells := 0, slots := 0, locals := 22 } : Room) s m args below meth c s.heap [] 0 0 (MQ below (vp_Si Post) args s 0 0 (fun _ => False)) (F0 m 112 ls []) := by
  have hC0 := hC
  obtain ⟨hx, hb, hr, hml, hown, hts, hlocks⟩ := hC
  intro x2 x3 x4 ls hl h
  unfold jX1_columns_112 at h
  refine lv_iload hx hb dX1_columns_112 (lv_at hl 4 rfl) ?_
  refine lv_if_eq (tgt := 123) hx hb dX1_columns_114 (by decide) (fun c => ?_) (fun c => ?_)
  · have h := h.1 c
    refine lv_iload_n hx hb dX1_columns_123 rfl (lv_at hl 2 rfl) ?_
    refine lv_istore_n (lv' := [(2, .int x2), (0, .ref (ad 0)), (1, .int a1), (3, .int x3), (4, .int x4)]) hx hb dX1_columns_124 rfl hl (by decide) rfl (fun ls hl => ?_)
    refine lv_iinc (v := (x3 + 1)) (lv' := [(3, .int (x3 + 1)), (2, .int x2), (0, .ref (ad 0)), (1, .int a1), (4, .int x4)]) hx hb dX1_columns_125 hl (k := 3) rfl rfl (by decide) rfl (fun ls hl => ?_)
    refine lv_goto (tgt := 5) hx hb dX1_columns_128 (by decide) ?_
    exact hr5 _ _ ls (lv_sub hl [2, 3, 1, 0] rfl) h
  · have h := h.2 c
    refine lv_iload_n hx hb dX1_columns_117 rfl (lv_at hl 2 rfl) ?_
    refine lv_iconst (v := 1) hx hb dX1_columns_118 (by decide) ?_
    refine lv_iadd hx hb dX1_columns_119 ?_
    refine lv_goto (tgt := 124) hx hb dX1_columns_120 (by decide) ?_
    refine lv_topi (fun x2_1 ex2_1 => ?_)
    have h := h x2_1 ex2_1
    refine lv_istore_n (lv' := [(2, .int x2_1), (0, .ref (ad 0)), (1, .int a1), (3, .int x3), (4, .int x4)]) hx hb dX1_columns_124 rfl hl (by decide) rfl (fun ls hl => ?_)
    refine lv_iinc (v := (x3 + 1)) (lv' := [(3, .int (x3 + 1)), (2, .int x2_1), (0, .ref (ad 0)), (1, .int a1), (4, .int x4)]) hx hb dX1_columns_125 hl (k := 3) rfl rfl (by decide) rfl (fun ls hl => ?_)
    refine lv_goto (tgt := 5) hx hb dX1_columns_128 (by decide) ?_
    exact hr5 _ _ ls (lv_sub hl [2, 3, 1, 0] rfl) h
set_option maxHeartbeats 4000000 in
set_option maxRecDepth 100000 in
theorem tX1_columns_66 {p : Program} {l : Launch} {e : Env} {s : State} {m : MethodId} {args : Array Value} {below : List Frame} {meth : Method} {c : Code} {dC : Nat → ClassId} {dI : Nat → Nat → Nat} {ad : Nat → Nat} {cA : Nat → ClassId} {nW : Nat} {nH : Nat} {th : Int32} {fn : Int32} {wd : Int32} {dk : Nat → Int32} {mn : Nat → Int32} {cs : Nat → Int64} {nx : Nat → Int32} {gs : Nat → Int32} {pr : Nat → Int64} {ln : Nat → Int32} {wy : Nat → Int32} {ct : Nat → Int64} {bf : Nat → Int64} {sg : Nat → Int64} {my : Nat → Int32} {a1 : Int32} {Post : Int32 → Prop} (hC : zC p s m args meth c cX1_columns wsX1_columns (some .int) 8 RX1) (hK : va_K (dC, dI) vwCl (tX1 cA) s) (hP : va_P (dC, dI) vwCl (wX1 ad cA nW nH th fn wd dk mn cs nx gs pr ln wy ct bf sg my) s.heap) {r5 : Int32 → Int32 → Prop} (hr5 : ∀ (x2 : Int32) (x3 : Int32) (ls : Array Slot), lv_has ls 8 [(0, .ref (ad 0)), (1, .int a1), (2, .int x2), (3, .int x3)] → r5 x2 x3 → W p l e ({ frames := 1, cells := 0, slots := 0, locals := 22 } : Room) s m args below meth c s.heap [] 0 0 (MQ below (vp_Si Post) args s 0 0 (fun _ => False)) (F0 m 5 ls [])) {r17 : Int32 → Int32 → Int32 → Int32 → Prop} (hr17 : ∀ (x2 : Int32) (x3 : Int32) (x4 : Int32) (x5 : Int32) (ls : Array Slot), lv_has ls 8 [(0, .ref (ad 0)), (1, .int a1), (2, .int x2), (3, .int x3), (4, .int x4), (5, .int x5)] → r17 x2 x3 x4 x5 → W p l e ({ frames := 1, cells := 0, slots := 0, locals := 22 } : Room) s m args below meth c s.heap [] 0 0 (MQ below (vp_Si Post) args s 0 0 (fun _ => False)) (F0 m 17 ls [])) : ∀ (x2 : Int32) (x3 : Int32) (x5 : Int32) (s0 : Int32) (ls : Array Slot), lv_has ls 8 [(0, .ref (ad 0)), (1, .int a1), (2, .int x2), (3, .int x3), (5, .int x5)] → jX1_columns_66 nW nH dk a1 Post r5 r17 x2 x3 x5 s0 → W p l e ({ frames := 1, cells := 0, slots := 0, locals := 22 } : Room) s m args below meth c s.heap [] 0 0 (MQ below (vp_Si Post) args s 0 0 (fun _ => False)) (F0 m 66 ls [.int s0]) := by
  have hC0 := hC
  obtain ⟨hx, hb, hr, hml, hown, hts, hlocks⟩ := hC
  intro x2 x3 x5 s0 ls hl h
  unfold jX1_columns_66 at h
  refine lv_istore (lv' := [(7, .int s0), (0, .ref (ad 0)), (1, .int a1), (2, .int x2), (3, .int x3), (5, .int x5)]) hx hb dX1_columns_66 hl (by decide) rfl (fun ls hl => ?_)
  refine lv_iload_n hx hb dX1_columns_68 rfl (lv_at hl 4 rfl) ?_
  refine lv_iload hx hb dX1_columns_69 (lv_at hl 0 rfl) ?_
  refine lv_isub hx hb dX1_columns_71 ?_
  refine lv_if_lt (tgt := 103) hx hb dX1_columns_72 (by decide) (fun c => ?_) (fun c => ?_)
  · have h := h.1 c
    refine lv_iconst (v := 0) hx hb dX1_columns_103 (by decide) ?_
    refine lv_istore (lv' := [(4, .int 0), (7, .int s0), (0, .ref (ad 0)), (1, .int a1), (2, .int x2), (3, .int x3), (5, .int x5)]) hx hb dX1_columns_104 hl (by decide) rfl (fun ls hl => ?_)
    refine lv_iinc (v := (x5 + 1)) (lv' := [(5, .int (x5 + 1)), (4, .int 0), (7, .int s0), (0, .ref (ad 0)), (1, .int a1), (2, .int x2), (3, .int x3)]) hx hb dX1_columns_106 hl (k := 6) rfl rfl (by decide) rfl (fun ls hl => ?_)
    refine lv_goto (tgt := 17) hx hb dX1_columns_109 (by decide) ?_
    exact hr17 _ _ _ _ ls (lv_sub hl [3, 4, 5, 6, 1, 0] rfl) h
  · have h := h.2 c
    refine lv_iload_n hx hb dX1_columns_75 rfl (lv_at hl 4 rfl) ?_
    refine lv_iload hx hb dX1_columns_76 (lv_at hl 0 rfl) ?_
    refine lv_isub hx hb dX1_columns_78 ?_
    refine lv_aload_n hx hb dX1_columns_79 rfl (lv_at hl 1 rfl) ?_
    refine va_get (D := (dC, dI)) (ci := 2) (v := .int (nI nW)) (C := RX1) (T := TX1) (N := 17) hx hb hts in_X1_columns hown hK hP 0 rfl rfl 1 (by decide) (hts (.fieldLink RX1 48 "SignCutterModel" "width" "I") (by decide +kernel)) (fun _ h9 => h9) rfl dX1_columns_80 ?_
    refine lv_icmp_ge (tgt := 103) hx hb dX1_columns_83 (by decide) (fun c => ?_) (fun c => ?_)
    · have h := h.1 c
      refine lv_iconst (v := 0) hx hb dX1_columns_103 (by decide) ?_
      refine lv_istore (lv' := [(4, .int 0), (7, .int s0), (0, .ref (ad 0)), (1, .int a1), (2, .int x2), (3, .int x3), (5, .int x5)]) hx hb dX1_columns_104 hl (by decide) rfl (fun ls hl => ?_)
      refine lv_iinc (v := (x5 + 1)) (lv' := [(5, .int (x5 + 1)), (4, .int 0), (7, .int s0), (0, .ref (ad 0)), (1, .int a1), (2, .int x2), (3, .int x3)]) hx hb dX1_columns_106 hl (k := 6) rfl rfl (by decide) rfl (fun ls hl => ?_)
      refine lv_goto (tgt := 17) hx hb dX1_columns_109 (by decide) ?_
      exact hr17 _ _ _ _ ls (lv_sub hl [3, 4, 5, 6, 1, 0] rfl) h
    · have h := h.2 c
      refine lv_aload_n hx hb dX1_columns_86 rfl (lv_at hl 1 rfl) ?_
      refine lv_iload_n hx hb dX1_columns_87 rfl (lv_at hl 4 rfl) ?_
      refine lv_iload hx hb dX1_columns_88 (lv_at hl 0 rfl) ?_
      refine lv_isub hx hb dX1_columns_90 ?_
      refine lv_iload hx hb dX1_columns_91 (lv_at hl 5 rfl) ?_
      refine z_cVi (ci := 2) (As := [.int (x3 - s0), .int x5]) (rest := []) ⟨hx, hb, hml, hown, hts⟩ (mX1_isDark l h) (cwV 2 hts gX1_columns_X1_isDark rfl rfl rfl (by decide +kernel) ⟨Nat.le_of_ble_eq_true rfl, Nat.le_of_ble_eq_true rfl⟩) hK hP 0 rfl rfl rfl rfl hl.1 rfl (Nat.le_of_ble_eq_true rfl) dX1_columns_93 ⟨Nat.le_of_ble_eq_true rfl, Nat.le_of_ble_eq_true rfl⟩ (fun r_3 h => ?_)
      refine lv_if_eq (tgt := 103) hx hb dX1_columns_96 (by decide) (fun c => ?_) (fun c => ?_)
      · have h := h.1 c
        refine lv_iconst (v := 0) hx hb dX1_columns_103 (by decide) ?_
        refine lv_istore (lv' := [(4, .int 0), (7, .int s0), (0, .ref (ad 0)), (1, .int a1), (2, .int x2), (3, .int x3), (5, .int x5)]) hx hb dX1_columns_104 hl (by decide) rfl (fun ls hl => ?_)
        refine lv_iinc (v := (x5 + 1)) (lv' := [(5, .int (x5 + 1)), (4, .int 0), (7, .int s0), (0, .ref (ad 0)), (1, .int a1), (2, .int x2), (3, .int x3)]) hx hb dX1_columns_106 hl (k := 6) rfl rfl (by decide) rfl (fun ls hl => ?_)
        refine lv_goto (tgt := 17) hx hb dX1_columns_109 (by decide) ?_
        exact hr17 _ _ _ _ ls (lv_sub hl [3, 4, 5, 6, 1, 0] rfl) h
      · have h := h.2 c
        refine lv_iconst (v := 1) hx hb dX1_columns_99 (by decide) ?_
        refine lv_goto (tgt := 104) hx hb dX1_columns_100 (by decide) ?_
        refine lv_istore (lv' := [(4, .int 1), (7, .int s0), (0, .ref (ad 0)), (1, .int a1), (2, .int x2), (3, .int x3), (5, .int x5)]) hx hb dX1_columns_104 hl (by decide) rfl (fun ls hl => ?_)
        refine lv_iinc (v := (x5 + 1)) (lv' := [(5, .int (x5 + 1)), (4, .int 1), (7, .int s0), (0, .ref (ad 0)), (1, .int a1), (2, .int x2), (3, .int x3)]) hx hb dX1_columns_106 hl (k := 6) rfl rfl (by decide) rfl (fun ls hl => ?_)
        refine lv_goto (tgt := 17) hx hb dX1_columns_109 (by decide) ?_
        exact hr17 _ _ _ _ ls (lv_sub hl [3, 4, 5, 6, 1, 0] rfl) h
set_option maxHeartbeats 4000000 in
set_option maxRecDepth 100000 in
theorem tX1_columns_17 {p : Program} {l : Launch} {e : Env} {s : State} {m : MethodId} {args : Array Value} {below : List Frame} {meth : Method} {c : Code} {dC : Nat → ClassId} {dI : Nat → Nat → Nat} {ad : Nat → Nat} {cA : Nat → ClassId} {nW : Nat} {nH : Nat} {th : Int32} {fn : Int32} {wd : Int32} {dk : Nat → Int32} {mn : Nat → Int32} {cs : Nat → Int64} {nx : Nat → Int32} {gs : Nat → Int32} {pr : Nat → Int64} {ln : Nat → Int32} {wy : Nat → Int32} {ct : Nat → Int64} {bf : Nat → Int64} {sg : Nat → Int64} {my : Nat → Int32} {a1 : Int32} {Post : Int32 → Prop} (hC : zC p s m args meth c cX1_columns wsX1_columns (some .int) 8 RX1) (hK : va_K (dC, dI) vwCl (tX1 cA) s) (hP : va_P (dC, dI) vwCl (wX1 ad cA nW nH th fn wd dk mn cs nx gs pr ln wy ct bf sg my) s.heap) {r5 : Int32 → Int32 → Prop} (hr5 : ∀ (x2 : Int32) (x3 : Int32) (ls : Array Slot), lv_has ls 8 [(0, .ref (ad 0)), (1, .int a1), (2, .int x2), (3, .int x3)] → r5 x2 x3 → W p l e ({ frames := 1, cells := 0, slots := 0, locals := 22 } : Room) s m args below meth c s.heap [] 0 0 (MQ below (vp_Si Post) args s 0 0 (fun _ => False)) (F0 m 5 ls [])) : ∀ (n : Nat), ∀ (x2 : Int32) (x3 : Int32) (x4 : Int32) (x5 : Int32) (ls : Array Slot), lv_has ls 8 [(0, .ref (ad 0)), (1, .int a1), (2, .int x2), (3, .int x3), (4, .int x4), (5, .int x5)] → lX1_columns_17 nW nH dk a1 Post r5 n x2 x3 x4 x5 → W p l e ({ frames := 1, cells := 0, slots := 0, locals := 22 } : Room) s m args below meth c s.heap [] 0 0 (MQ below (vp_Si Post) args s 0 0 (fun _ => False)) (F0 m 17 ls []) := by
  have hC0 := hC
  obtain ⟨hx, hb, hr, hml, hown, hts, hlocks⟩ := hC
  intro n
  induction n with
  | zero =>
    intro x2 x3 x4 x5 ls hl h
    exact h.elim
  | succ n hr17 =>
    intro x2 x3 x4 x5 ls hl h
    have h : bX1_columns_17 nW nH dk a1 Post r5 (lX1_columns_17 nW nH dk a1 Post r5 n) x2 x3 x4 x5 := h
    unfold bX1_columns_17 at h
    refine lv_iload hx hb dX1_columns_17 (lv_at hl 5 rfl) ?_
    refine lv_aload_n hx hb dX1_columns_19 rfl (lv_at hl 0 rfl) ?_
    refine va_get (D := (dC, dI)) (ci := 2) (v := .int (nI nH)) (C := RX1) (T := TX1) (N := 17) hx hb hts in_X1_columns hown hK hP 0 rfl rfl 2 (by decide) (hts (.fieldLink RX1 52 "SignCutterModel" "height" "I") (by decide +kernel)) (fun _ h9 => h9) rfl dX1_columns_20 ?_
    refine lv_icmp_ge (tgt := 112) hx hb dX1_columns_23 (by decide) (fun c => ?_) (fun c => ?_)
    · have h := h.1 c
      exact tX1_columns_112 hC0 hK hP hr5 _ _ _ ls (lv_sub hl [0, 1, 2, 3, 4] rfl) h
    · have h := h.2 c
      refine lv_iload hx hb dX1_columns_26 (lv_at hl 4 rfl) ?_
      refine lv_if_ne (tgt := 112) hx hb dX1_columns_28 (by decide) (fun c => ?_) (fun c => ?_)
      · have h := h.2 c
        exact tX1_columns_112 hC0 hK hP hr5 _ _ _ ls (lv_sub hl [0, 1, 2, 3, 4] rfl) h
      · have h := h.1 c
        refine lv_iload_n hx hb dX1_columns_31 rfl (lv_at hl 1 rfl) ?_
        refine lv_aload_n hx hb dX1_columns_32 rfl (lv_at hl 0 rfl) ?_
        refine va_get (D := (dC, dI)) (ci := 2) (v := .int (nI nH)) (C := RX1) (T := TX1) (N := 17) hx hb hts in_X1_columns hown hK hP 0 rfl rfl 2 (by decide) (hts (.fieldLink RX1 52 "SignCutterModel" "height" "I") (by decide +kernel)) (fun _ h9 => h9) rfl dX1_columns_33 ?_
        refine lv_iconst (v := 1) hx hb dX1_columns_36 (by decide) ?_
        refine lv_isub hx hb dX1_columns_37 ?_
        refine lv_iload hx hb dX1_columns_38 (lv_at hl 5 rfl) ?_
        refine lv_isub hx hb dX1_columns_40 ?_
        refine lv_imul hx hb dX1_columns_41 ?_
        refine lv_topi (fun x6_2 ex6_2 => ?_)
        have h := h x6_2 ex6_2
        refine lv_istore (lv' := [(6, .int x6_2), (0, .ref (ad 0)), (1, .int a1), (2, .int x2), (3, .int x3), (4, .int x4), (5, .int x5)]) hx hb dX1_columns_42 hl (by decide) rfl (fun ls hl => ?_)
        refine lv_iload hx hb dX1_columns_44 (lv_at hl 0 rfl) ?_
        refine lv_if_lt (tgt := 57) hx hb dX1_columns_46 (by decide) (fun c => ?_) (fun c => ?_)
        · have h := h.1 c
          refine lv_bipush (v := 7) hx hb dX1_columns_57 (by decide) ?_
          refine lv_iload hx hb dX1_columns_59 (lv_at hl 0 rfl) ?_
          refine lv_isub hx hb dX1_columns_61 ?_
          refine lv_bipush (v := 8) hx hb dX1_columns_62 (by decide) ?_
          refine lv_idiv hx hb dX1_columns_64 (by decide) ?_
          refine lv_ineg hx hb dX1_columns_65 ?_
          exact tX1_columns_66 hC0 hK hP hr5 hr17 _ _ _ _ ls (lv_sub hl [1, 2, 3, 4, 6] rfl) h
        · have h := h.2 c
          refine lv_iload hx hb dX1_columns_49 (lv_at hl 0 rfl) ?_
          refine lv_bipush (v := 8) hx hb dX1_columns_51 (by decide) ?_
          refine lv_idiv hx hb dX1_columns_53 (by decide) ?_
          refine lv_goto (tgt := 66) hx hb dX1_columns_54 (by decide) ?_
          exact tX1_columns_66 hC0 hK hP hr5 hr17 _ _ _ _ ls (lv_sub hl [1, 2, 3, 4, 6] rfl) h
set_option maxHeartbeats 4000000 in
set_option maxRecDepth 100000 in
theorem tX1_columns_5 {p : Program} {l : Launch} {e : Env} {s : State} {m : MethodId} {args : Array Value} {below : List Frame} {meth : Method} {c : Code} {dC : Nat → ClassId} {dI : Nat → Nat → Nat} {ad : Nat → Nat} {cA : Nat → ClassId} {nW : Nat} {nH : Nat} {th : Int32} {fn : Int32} {wd : Int32} {dk : Nat → Int32} {mn : Nat → Int32} {cs : Nat → Int64} {nx : Nat → Int32} {gs : Nat → Int32} {pr : Nat → Int64} {ln : Nat → Int32} {wy : Nat → Int32} {ct : Nat → Int64} {bf : Nat → Int64} {sg : Nat → Int64} {my : Nat → Int32} {a1 : Int32} {Post : Int32 → Prop} (hC : zC p s m args meth c cX1_columns wsX1_columns (some .int) 8 RX1) (hK : va_K (dC, dI) vwCl (tX1 cA) s) (hP : va_P (dC, dI) vwCl (wX1 ad cA nW nH th fn wd dk mn cs nx gs pr ln wy ct bf sg my) s.heap) : ∀ (n : Nat), ∀ (x2 : Int32) (x3 : Int32) (ls : Array Slot), lv_has ls 8 [(0, .ref (ad 0)), (1, .int a1), (2, .int x2), (3, .int x3)] → lX1_columns_5 nW nH dk a1 Post n x2 x3 → W p l e ({ frames := 1, cells := 0, slots := 0, locals := 22 } : Room) s m args below meth c s.heap [] 0 0 (MQ below (vp_Si Post) args s 0 0 (fun _ => False)) (F0 m 5 ls []) := by
  have hC0 := hC
  obtain ⟨hx, hb, hr, hml, hown, hts, hlocks⟩ := hC
  intro n
  induction n with
  | zero =>
    intro x2 x3 ls hl h
    exact h.elim
  | succ n hr5 =>
    intro x2 x3 ls hl h
    have h : bX1_columns_5 nW nH dk a1 Post (lX1_columns_5 nW nH dk a1 Post n) x2 x3 := h
    unfold bX1_columns_5 at h
    refine lv_iload_n hx hb dX1_columns_5 rfl (lv_at hl 3 rfl) ?_
    refine lv_bipush (v := 120) hx hb dX1_columns_6 (by decide) ?_
    refine lv_icmp_ge (tgt := 131) hx hb dX1_columns_8 (by decide) (fun c => ?_) (fun c => ?_)
    · have h := h.1 c
      refine lv_iload_n hx hb dX1_columns_131 rfl (lv_at hl 2 rfl) ?_
      exact W.iret (v := x2) hx hb hr (fun t ht hW => ⟨_, rfl, h, ht⟩) (fun q hq => absurd hq List.not_mem_nil) dX1_columns_132
    · have h := h.2 c
      refine lv_iconst (v := 0) hx hb dX1_columns_11 (by decide) ?_
      refine lv_istore (lv' := [(4, .int 0), (0, .ref (ad 0)), (1, .int a1), (2, .int x2), (3, .int x3)]) hx hb dX1_columns_12 hl (by decide) rfl (fun ls hl => ?_)
      refine lv_iconst (v := 0) hx hb dX1_columns_14 (by decide) ?_
      refine lv_istore (lv' := [(5, .int 0), (4, .int 0), (0, .ref (ad 0)), (1, .int a1), (2, .int x2), (3, .int x3)]) hx hb dX1_columns_15 hl (by decide) rfl (fun ls hl => ?_)
      obtain ⟨n_4, h⟩ := h
      exact tX1_columns_17 hC0 hK hP hr5 n_4 _ _ _ _ ls (lv_sub hl [2, 3, 4, 5, 1, 0] rfl) h
set_option maxHeartbeats 4000000 in
set_option maxRecDepth 100000 in
theorem mX1_columns (l : Launch) {dC : Nat → ClassId} {dI : Nat → Nat → Nat} {ad : Nat → Nat} {cA : Nat → ClassId} {nW : Nat} {nH : Nat} {th : Int32} {fn : Int32} {wd : Int32} {dk : Nat → Int32} {mn : Nat → Int32} {cs : Nat → Int64} {nx : Nat → Int32} {gs : Nat → Int32} {pr : Nat → Int64} {ln : Nat → Int32} {wy : Nat → Int32} {ct : Nat → Int64} {bf : Nat → Int64} {sg : Nat → Int64} {my : Nat → Int32} {a1 : Int32} {Post : Int32 → Prop} (h : wX1_columns nW nH dk a1 Post) : Met l yX1_columns wsX1_columns ({ frames := 1, cells := 0, slots := 0, locals := 22 } : Room) (zPc (dC, dI) vwCl (tX1 cA) (wX1 ad cA nW nH th fn wd dk mn cs nx gs pr ln wy ct bf sg my) [.ref (ad 0), .int a1]) (vp_Si Post) 0 0 (fun _ => False) := by
  refine Met.ofW (cc := cX1_columns) (maxL := 8) (ret := (some .int)) (by decide) rfl ?_
  intro p e s m args below meth c s₁ B hml hv
  obtain ⟨rfl, hP, hK⟩ := hv
  have hC : zC p s m [.ref (ad 0), .int a1].toArray meth c cX1_columns wsX1_columns (some .int) 8 RX1 := ⟨B.exec, B.bytes, B.returns, hml, findClass_of_methodNamed B.named, atoms_spec (ws := wsX1_columns) B.pre, B.notSynchronized⟩
  have hC0 := hC
  obtain ⟨hx, hb, hr, hml, hown, hts, hlocks⟩ := hC
  have hl := lv_entry ([.ref (ad 0), .int a1]) (n := 8) (Nat.le_of_ble_eq_true rfl)
  rw [lg_entry_eq]
  generalize (lg_sl ([.ref (ad 0), .int a1]) ++ List.replicate (8 - (lg_sl ([.ref (ad 0), .int a1])).length) Slot.unset).toArray = ls at hl ⊢
  have hl : lv_has ls 8 [(0, .ref (ad 0)), (1, .int a1)] := hl
  unfold wX1_columns at h
  refine lv_iconst (v := 0) hx hb dX1_columns_0 (by decide) ?_
  refine lv_istore_n (lv' := [(2, .int 0), (0, .ref (ad 0)), (1, .int a1)]) hx hb dX1_columns_1 rfl hl (by decide) rfl (fun ls hl => ?_)
  refine lv_bipush (v := (-60)) hx hb dX1_columns_2 (by decide) ?_
  refine lv_istore_n (lv' := [(3, .int (-60)), (2, .int 0), (0, .ref (ad 0)), (1, .int a1)]) hx hb dX1_columns_4 rfl hl (by decide) rfl (fun ls hl => ?_)
  obtain ⟨n_5, h⟩ := h
  exact tX1_columns_5 hC0 hK hP n_5 _ _ ls (lv_sub hl [2, 3, 1, 0] rfl) h
theorem in_X1_slant : ∀ w ∈ wsX10, w ∈ wsX1_slant := by decide +kernel
set_option maxHeartbeats 4000000 in
set_option maxRecDepth 100000 in
theorem tX1_slant_73 {p : Program} {l : Launch} {e : Env} {s : State} {m : MethodId} {args : Array Value} {below : List Frame} {meth : Method} {c : Code} {dC : Nat → ClassId} {dI : Nat → Nat → Nat} {ad : Nat → Nat} {cA : Nat → ClassId} {nW : Nat} {nH : Nat} {fn : Int32} {wd : Int32} {dk : Nat → Int32} {mn : Nat → Int32} {cs : Nat → Int64} {nx : Nat → Int32} {gs : Nat → Int32} {pr : Nat → Int64} {ln : Nat → Int32} {wy : Nat → Int32} {ct : Nat → Int64} {bf : Nat → Int64} {sg : Nat → Int64} {my : Nat → Int32} {Post : Int32 → (Int32) → Prop} (hC : zC p s m args meth c cX1_slant wsX1_slant (some .int) 6 RX1) (hK : va_K (dC, dI) vwCl (tX1 cA) s) {A : Nat → Prop} (hA : ∀ q, s.heap.size ≤ q → A q) {Qc : Array Value → State → Outcome → State → Prop} (hQ : ∀ (r : Int32) (th : Int32) (H : Heap) (locs : List Loc), va_P (dC, dI) vwCl (wX1 ad cA nW nH th fn wd dk mn cs nx gs pr ln wy ct bf sg my) H → va_D A (wX1 ad cA nW nH th fn wd dk mn cs nx gs pr ln wy ct bf sg my) → va_S A s.heap H locs → Post r th → ∀ t : State, t.heap = H → s.WarmedH t.vm → Qc args s (.returned (some (.int r))) t) {r15 : Int32 → Int32 → Int32 → (Int32) → Prop} (hr15 : ∀ (x1 : Int32) (x2 : Int32) (x3 : Int32) (th : Int32) (H : Heap) (locs : List Loc), va_P (dC, dI) vwCl (wX1 ad cA nW nH th fn wd dk mn cs nx gs pr ln wy ct bf sg my) H → va_D A (wX1 ad cA nW nH th fn wd dk mn cs nx gs pr ln wy ct bf sg my) → va_S A s.heap H locs → ∀ (ls : Array Slot), lv_has ls 6 [(0, .ref (ad 0)), (1, .int x1), (2, .int x2), (3, .int x3)] → r15 x1 x2 x3 th → W p l e ({ frames := 2, cells := 0, slots := 0, locals := 49 } : Room) s m args below meth c H locs 0 0 (MQ below Qc args s 0 0 A) (F0 m 15 ls [])) : ∀ (x2 : Int32) (x3 : Int32) (x5 : Int32) (s0 : Int32) (th : Int32) (H : Heap) (locs : List Loc), va_P (dC, dI) vwCl (wX1 ad cA nW nH th fn wd dk mn cs nx gs pr ln wy ct bf sg my) H → va_D A (wX1 ad cA nW nH th fn wd dk mn cs nx gs pr ln wy ct bf sg my) → va_S A s.heap H locs → ∀ (ls : Array Slot), lv_has ls 6 [(0, .ref (ad 0)), (2, .int x2), (3, .int x3), (5, .int x5)] → jX1_slant_73 nW nH dk Post r15 x2 x3 x5 s0 th → W p l e ({ frames := 2, cells := 0, slots := 0, locals := 49 } : Room) s m args below meth c H locs 0 0 (MQ below Qc args s 0 0 A) (F0 m 73 ls [.int s0]) := by
  have hC0 := hC
  obtain ⟨hx, hb, hr, hml, hown, hts, hlocks⟩ := hC
  intro x2 x3 x5 s0 th H locs hP hD hS ls hl h
  unfold jX1_slant_73 at h
  refine lv_istore_n (lv' := [(1, .int s0), (0, .ref (ad 0)), (2, .int x2), (3, .int x3), (5, .int x5)]) hx hb dX1_slant_73 rfl hl (by decide) rfl (fun ls hl => ?_)
  refine lv_iload hx hb dX1_slant_74 (lv_at hl 4 rfl) ?_
  refine lv_iload_n hx hb dX1_slant_76 rfl (lv_at hl 2 rfl) ?_
  refine lv_icmp_ge (tgt := 85) hx hb dX1_slant_77 (by decide) (fun c => ?_) (fun c => ?_)
  · have h := h.1 c
    refine lv_iload_n hx hb dX1_slant_85 rfl (lv_at hl 2 rfl) ?_
    refine lv_istore_n (lv' := [(2, .int x2), (1, .int s0), (0, .ref (ad 0)), (3, .int x3), (5, .int x5)]) hx hb dX1_slant_86 rfl hl (by decide) rfl (fun ls hl => ?_)
    refine lv_iinc (v := (x3 + 1)) (lv' := [(3, .int (x3 + 1)), (2, .int x2), (1, .int s0), (0, .ref (ad 0)), (5, .int x5)]) hx hb dX1_slant_87 hl (k := 3) rfl rfl (by decide) rfl (fun ls hl => ?_)
    refine lv_goto (tgt := 15) hx hb dX1_slant_90 (by decide) ?_
    exact hr15 _ _ _ _ _ _ hP hD hS ls (lv_sub hl [3, 2, 1, 0] rfl) h
  · have h := h.2 c
    refine lv_iload hx hb dX1_slant_80 (lv_at hl 4 rfl) ?_
    refine lv_goto (tgt := 86) hx hb dX1_slant_82 (by decide) ?_
    refine lv_istore_n (lv' := [(2, .int x5), (1, .int s0), (0, .ref (ad 0)), (3, .int x3), (5, .int x5)]) hx hb dX1_slant_86 rfl hl (by decide) rfl (fun ls hl => ?_)
    refine lv_iinc (v := (x3 + 1)) (lv' := [(3, .int (x3 + 1)), (2, .int x5), (1, .int s0), (0, .ref (ad 0)), (5, .int x5)]) hx hb dX1_slant_87 hl (k := 3) rfl rfl (by decide) rfl (fun ls hl => ?_)
    refine lv_goto (tgt := 15) hx hb dX1_slant_90 (by decide) ?_
    exact hr15 _ _ _ _ _ _ hP hD hS ls (lv_sub hl [3, 2, 1, 0] rfl) h
set_option maxHeartbeats 4000000 in
set_option maxRecDepth 100000 in
theorem tX1_slant_54 {p : Program} {l : Launch} {e : Env} {s : State} {m : MethodId} {args : Array Value} {below : List Frame} {meth : Method} {c : Code} {dC : Nat → ClassId} {dI : Nat → Nat → Nat} {ad : Nat → Nat} {cA : Nat → ClassId} {nW : Nat} {nH : Nat} {fn : Int32} {wd : Int32} {dk : Nat → Int32} {mn : Nat → Int32} {cs : Nat → Int64} {nx : Nat → Int32} {gs : Nat → Int32} {pr : Nat → Int64} {ln : Nat → Int32} {wy : Nat → Int32} {ct : Nat → Int64} {bf : Nat → Int64} {sg : Nat → Int64} {my : Nat → Int32} {Post : Int32 → (Int32) → Prop} (hC : zC p s m args meth c cX1_slant wsX1_slant (some .int) 6 RX1) (hK : va_K (dC, dI) vwCl (tX1 cA) s) {A : Nat → Prop} (hA : ∀ q, s.heap.size ≤ q → A q) {Qc : Array Value → State → Outcome → State → Prop} (hQ : ∀ (r : Int32) (th : Int32) (H : Heap) (locs : List Loc), va_P (dC, dI) vwCl (wX1 ad cA nW nH th fn wd dk mn cs nx gs pr ln wy ct bf sg my) H → va_D A (wX1 ad cA nW nH th fn wd dk mn cs nx gs pr ln wy ct bf sg my) → va_S A s.heap H locs → Post r th → ∀ t : State, t.heap = H → s.WarmedH t.vm → Qc args s (.returned (some (.int r))) t) {r15 : Int32 → Int32 → Int32 → (Int32) → Prop} (hr15 : ∀ (x1 : Int32) (x2 : Int32) (x3 : Int32) (th : Int32) (H : Heap) (locs : List Loc), va_P (dC, dI) vwCl (wX1 ad cA nW nH th fn wd dk mn cs nx gs pr ln wy ct bf sg my) H → va_D A (wX1 ad cA nW nH th fn wd dk mn cs nx gs pr ln wy ct bf sg my) → va_S A s.heap H locs → ∀ (ls : Array Slot), lv_has ls 6 [(0, .ref (ad 0)), (1, .int x1), (2, .int x2), (3, .int x3)] → r15 x1 x2 x3 th → W p l e ({ frames := 2, cells := 0, slots := 0, locals := 49 } : Room) s m args below meth c H locs 0 0 (MQ below Qc args s 0 0 A) (F0 m 15 ls [])) : ∀ (x1 : Int32) (x3 : Int32) (s0 : Int32) (th : Int32) (H : Heap) (locs : List Loc), va_P (dC, dI) vwCl (wX1 ad cA nW nH th fn wd dk mn cs nx gs pr ln wy ct bf sg my) H → va_D A (wX1 ad cA nW nH th fn wd dk mn cs nx gs pr ln wy ct bf sg my) → va_S A s.heap H locs → ∀ (ls : Array Slot), lv_has ls 6 [(0, .ref (ad 0)), (1, .int x1), (3, .int x3)] → jX1_slant_54 nW nH dk Post r15 x1 x3 s0 th → W p l e ({ frames := 2, cells := 0, slots := 0, locals := 49 } : Room) s m args below meth c H locs 0 0 (MQ below Qc args s 0 0 A) (F0 m 54 ls [.int s0]) := by
  have hC0 := hC
  obtain ⟨hx, hb, hr, hml, hown, hts, hlocks⟩ := hC
  intro x1 x3 s0 th H locs hP hD hS ls hl h
  unfold jX1_slant_54 at h
  refine lv_istore_n (lv' := [(2, .int s0), (0, .ref (ad 0)), (1, .int x1), (3, .int x3)]) hx hb dX1_slant_54 rfl hl (by decide) rfl (fun ls hl => ?_)
  refine lv_aload_n hx hb dX1_slant_55 rfl (lv_at hl 1 rfl) ?_
  refine lv_iload_n hx hb dX1_slant_56 rfl (lv_at hl 3 rfl) ?_
  refine z_cVi (ci := 2) (As := [.int x3]) (rest := []) ⟨hx, hb, hml, hown, hts⟩ (mX1_columns l h) (cwV 1 hts gX1_slant_X1_columns rfl rfl rfl (by decide +kernel) ⟨Nat.le_of_ble_eq_true rfl, Nat.le_of_ble_eq_true rfl⟩) hK hP 0 rfl rfl rfl rfl hl.1 rfl (Nat.le_of_ble_eq_true rfl) dX1_slant_57 ⟨Nat.le_of_ble_eq_true rfl, Nat.le_of_ble_eq_true rfl⟩ (fun r_3 h => ?_)
  refine lv_istore (lv' := [(5, .int r_3), (2, .int s0), (0, .ref (ad 0)), (1, .int x1), (3, .int x3)]) hx hb dX1_slant_60 hl (by decide) rfl (fun ls hl => ?_)
  refine lv_iload hx hb dX1_slant_62 (lv_at hl 0 rfl) ?_
  refine lv_iload_n hx hb dX1_slant_64 rfl (lv_at hl 1 rfl) ?_
  refine lv_icmp_ge (tgt := 72) hx hb dX1_slant_65 (by decide) (fun c => ?_) (fun c => ?_)
  · have h := h.1 c
    refine lv_iload_n hx hb dX1_slant_72 rfl (lv_at hl 3 rfl) ?_
    exact tX1_slant_73 hC0 hK hA hQ hr15 _ _ _ _ _ _ _ hP hD hS ls (lv_sub hl [2, 1, 4, 0] rfl) h
  · have h := h.2 c
    refine lv_iload_n hx hb dX1_slant_68 rfl (lv_at hl 4 rfl) ?_
    refine lv_goto (tgt := 73) hx hb dX1_slant_69 (by decide) ?_
    exact tX1_slant_73 hC0 hK hA hQ hr15 _ _ _ _ _ _ _ hP hD hS ls (lv_sub hl [2, 1, 4, 0] rfl) h
set_option maxHeartbeats 4000000 in
set_option maxRecDepth 100000 in
theorem tX1_slant_41 {p : Program} {l : Launch} {e : Env} {s : State} {m : MethodId} {args : Array Value} {below : List Frame} {meth : Method} {c : Code} {dC : Nat → ClassId} {dI : Nat → Nat → Nat} {ad : Nat → Nat} {cA : Nat → ClassId} {nW : Nat} {nH : Nat} {fn : Int32} {wd : Int32} {dk : Nat → Int32} {mn : Nat → Int32} {cs : Nat → Int64} {nx : Nat → Int32} {gs : Nat → Int32} {pr : Nat → Int64} {ln : Nat → Int32} {wy : Nat → Int32} {ct : Nat → Int64} {bf : Nat → Int64} {sg : Nat → Int64} {my : Nat → Int32} {Post : Int32 → (Int32) → Prop} (hC : zC p s m args meth c cX1_slant wsX1_slant (some .int) 6 RX1) (hK : va_K (dC, dI) vwCl (tX1 cA) s) {A : Nat → Prop} (hA : ∀ q, s.heap.size ≤ q → A q) {Qc : Array Value → State → Outcome → State → Prop} (hQ : ∀ (r : Int32) (th : Int32) (H : Heap) (locs : List Loc), va_P (dC, dI) vwCl (wX1 ad cA nW nH th fn wd dk mn cs nx gs pr ln wy ct bf sg my) H → va_D A (wX1 ad cA nW nH th fn wd dk mn cs nx gs pr ln wy ct bf sg my) → va_S A s.heap H locs → Post r th → ∀ t : State, t.heap = H → s.WarmedH t.vm → Qc args s (.returned (some (.int r))) t) {r15 : Int32 → Int32 → Int32 → (Int32) → Prop} (hr15 : ∀ (x1 : Int32) (x2 : Int32) (x3 : Int32) (th : Int32) (H : Heap) (locs : List Loc), va_P (dC, dI) vwCl (wX1 ad cA nW nH th fn wd dk mn cs nx gs pr ln wy ct bf sg my) H → va_D A (wX1 ad cA nW nH th fn wd dk mn cs nx gs pr ln wy ct bf sg my) → va_S A s.heap H locs → ∀ (ls : Array Slot), lv_has ls 6 [(0, .ref (ad 0)), (1, .int x1), (2, .int x2), (3, .int x3)] → r15 x1 x2 x3 th → W p l e ({ frames := 2, cells := 0, slots := 0, locals := 49 } : Room) s m args below meth c H locs 0 0 (MQ below Qc args s 0 0 A) (F0 m 15 ls [])) : ∀ (x2 : Int32) (x3 : Int32) (x4 : Int32) (s0 : Int32) (th : Int32) (H : Heap) (locs : List Loc), va_P (dC, dI) vwCl (wX1 ad cA nW nH th fn wd dk mn cs nx gs pr ln wy ct bf sg my) H → va_D A (wX1 ad cA nW nH th fn wd dk mn cs nx gs pr ln wy ct bf sg my) → va_S A s.heap H locs → ∀ (ls : Array Slot), lv_has ls 6 [(0, .ref (ad 0)), (2, .int x2), (3, .int x3), (4, .int x4)] → jX1_slant_41 nW nH dk Post r15 x2 x3 x4 s0 th → W p l e ({ frames := 2, cells := 0, slots := 0, locals := 49 } : Room) s m args below meth c H locs 0 0 (MQ below Qc args s 0 0 A) (F0 m 41 ls [.int s0]) := by
  have hC0 := hC
  obtain ⟨hx, hb, hr, hml, hown, hts, hlocks⟩ := hC
  intro x2 x3 x4 s0 th H locs hP hD hS ls hl h
  unfold jX1_slant_41 at h
  refine lv_istore_n (lv' := [(1, .int s0), (0, .ref (ad 0)), (2, .int x2), (3, .int x3), (4, .int x4)]) hx hb dX1_slant_41 rfl hl (by decide) rfl (fun ls hl => ?_)
  refine lv_iload hx hb dX1_slant_42 (lv_at hl 4 rfl) ?_
  refine lv_iload_n hx hb dX1_slant_44 rfl (lv_at hl 2 rfl) ?_
  refine lv_icmp_ge (tgt := 53) hx hb dX1_slant_45 (by decide) (fun c => ?_) (fun c => ?_)
  · have h := h.1 c
    refine lv_iload_n hx hb dX1_slant_53 rfl (lv_at hl 2 rfl) ?_
    exact tX1_slant_54 hC0 hK hA hQ hr15 _ _ _ _ _ _ hP hD hS ls (lv_sub hl [1, 0, 3] rfl) h
  · have h := h.2 c
    refine lv_iload hx hb dX1_slant_48 (lv_at hl 4 rfl) ?_
    refine lv_goto (tgt := 54) hx hb dX1_slant_50 (by decide) ?_
    exact tX1_slant_54 hC0 hK hA hQ hr15 _ _ _ _ _ _ hP hD hS ls (lv_sub hl [1, 0, 3] rfl) h
set_option maxHeartbeats 4000000 in
set_option maxRecDepth 100000 in
theorem tX1_slant_15 {p : Program} {l : Launch} {e : Env} {s : State} {m : MethodId} {args : Array Value} {below : List Frame} {meth : Method} {c : Code} {dC : Nat → ClassId} {dI : Nat → Nat → Nat} {ad : Nat → Nat} {cA : Nat → ClassId} {nW : Nat} {nH : Nat} {fn : Int32} {wd : Int32} {dk : Nat → Int32} {mn : Nat → Int32} {cs : Nat → Int64} {nx : Nat → Int32} {gs : Nat → Int32} {pr : Nat → Int64} {ln : Nat → Int32} {wy : Nat → Int32} {ct : Nat → Int64} {bf : Nat → Int64} {sg : Nat → Int64} {my : Nat → Int32} {Post : Int32 → (Int32) → Prop} (hC : zC p s m args meth c cX1_slant wsX1_slant (some .int) 6 RX1) (hK : va_K (dC, dI) vwCl (tX1 cA) s) {A : Nat → Prop} (hA : ∀ q, s.heap.size ≤ q → A q) {Qc : Array Value → State → Outcome → State → Prop} (hQ : ∀ (r : Int32) (th : Int32) (H : Heap) (locs : List Loc), va_P (dC, dI) vwCl (wX1 ad cA nW nH th fn wd dk mn cs nx gs pr ln wy ct bf sg my) H → va_D A (wX1 ad cA nW nH th fn wd dk mn cs nx gs pr ln wy ct bf sg my) → va_S A s.heap H locs → Post r th → ∀ t : State, t.heap = H → s.WarmedH t.vm → Qc args s (.returned (some (.int r))) t) : ∀ (n : Nat), ∀ (x1 : Int32) (x2 : Int32) (x3 : Int32) (th : Int32) (H : Heap) (locs : List Loc), va_P (dC, dI) vwCl (wX1 ad cA nW nH th fn wd dk mn cs nx gs pr ln wy ct bf sg my) H → va_D A (wX1 ad cA nW nH th fn wd dk mn cs nx gs pr ln wy ct bf sg my) → va_S A s.heap H locs → ∀ (ls : Array Slot), lv_has ls 6 [(0, .ref (ad 0)), (1, .int x1), (2, .int x2), (3, .int x3)] → lX1_slant_15 nW nH dk Post n x1 x2 x3 th → W p l e ({ frames := 2, cells := 0, slots := 0, locals := 49 } : Room) s m args below meth c H locs 0 0 (MQ below Qc args s 0 0 A) (F0 m 15 ls []) := by
  have hC0 := hC
  obtain ⟨hx, hb, hr, hml, hown, hts, hlocks⟩ := hC
  intro n
  induction n with
  | zero =>
    intro x1 x2 x3 th H locs hP hD hS ls hl h
    exact h.elim
  | succ n hr15 =>
    intro x1 x2 x3 th H locs hP hD hS ls hl h
    have h : bX1_slant_15 nW nH dk Post (lX1_slant_15 nW nH dk Post n) x1 x2 x3 th := h
    unfold bX1_slant_15 at h
    refine lv_iload_n hx hb dX1_slant_15 rfl (lv_at hl 3 rfl) ?_
    refine lv_bipush (v := 7) hx hb dX1_slant_16 (by decide) ?_
    refine lv_icmp_ge (tgt := 93) hx hb dX1_slant_18 (by decide) (fun c => ?_) (fun c => ?_)
    · have h := h.1 c
      refine lv_iload_n hx hb dX1_slant_93 rfl (lv_at hl 1 rfl) ?_
      exact W.iret (v := x1) hx hb hr (hQ _ _ _ _ hP hD hS h) hS.2.2 dX1_slant_94
    · have h := h.2 c
      refine lv_aload_n hx hb dX1_slant_21 rfl (lv_at hl 0 rfl) ?_
      refine lv_iload_n hx hb dX1_slant_22 rfl (lv_at hl 3 rfl) ?_
      refine lv_ineg hx hb dX1_slant_23 ?_
      refine z_cVi (ci := 2) (As := [.int (-x3)]) (rest := []) ⟨hx, hb, hml, hown, hts⟩ (mX1_columns l h) (cwV 1 hts gX1_slant_X1_columns rfl rfl rfl (by decide +kernel) ⟨Nat.le_of_ble_eq_true rfl, Nat.le_of_ble_eq_true rfl⟩) hK hP 0 rfl rfl rfl rfl hl.1 rfl (Nat.le_of_ble_eq_true rfl) dX1_slant_24 ⟨Nat.le_of_ble_eq_true rfl, Nat.le_of_ble_eq_true rfl⟩ (fun r_2 h => ?_)
      refine lv_istore (lv' := [(4, .int r_2), (0, .ref (ad 0)), (1, .int x1), (2, .int x2), (3, .int x3)]) hx hb dX1_slant_27 hl (by decide) rfl (fun ls hl => ?_)
      refine lv_iload hx hb dX1_slant_29 (lv_at hl 0 rfl) ?_
      refine lv_iload_n hx hb dX1_slant_31 rfl (lv_at hl 3 rfl) ?_
      refine lv_icmp_ge (tgt := 40) hx hb dX1_slant_32 (by decide) (fun c => ?_) (fun c => ?_)
      · have h := h.1 c
        refine lv_iload_n hx hb dX1_slant_40 rfl (lv_at hl 2 rfl) ?_
        exact tX1_slant_41 hC0 hK hA hQ hr15 _ _ _ _ _ _ _ hP hD hS ls (lv_sub hl [1, 3, 4, 0] rfl) h
      · have h := h.2 c
        refine lv_iload_n hx hb dX1_slant_35 rfl (lv_at hl 4 rfl) ?_
        refine lv_ineg hx hb dX1_slant_36 ?_
        refine lv_goto (tgt := 41) hx hb dX1_slant_37 (by decide) ?_
        exact tX1_slant_41 hC0 hK hA hQ hr15 _ _ _ _ _ _ _ hP hD hS ls (lv_sub hl [1, 3, 4, 0] rfl) h
set_option maxHeartbeats 4000000 in
set_option maxRecDepth 100000 in
theorem mX1_slant (l : Launch) {dC : Nat → ClassId} {dI : Nat → Nat → Nat} {ad : Nat → Nat} {cA : Nat → ClassId} {nW : Nat} {nH : Nat} {th : Int32} {fn : Int32} {wd : Int32} {dk : Nat → Int32} {mn : Nat → Int32} {cs : Nat → Int64} {nx : Nat → Int32} {gs : Nat → Int32} {pr : Nat → Int64} {ln : Nat → Int32} {wy : Nat → Int32} {ct : Nat → Int64} {bf : Nat → Int64} {sg : Nat → Int64} {my : Nat → Int32} {sz : Nat} {Post : Int32 → (Int32) → Prop} (h : wX1_slant nW nH dk th Post) : Met l yX1_slant wsX1_slant ({ frames := 2, cells := 0, slots := 0, locals := 49 } : Room) (zPw (dC, dI) vwCl (tX1 cA) (wX1 ad cA nW nH th fn wd dk mn cs nx gs pr ln wy ct bf sg my) sz [.ref (ad 0)]) (va_Qi (S := (Int32)) (fun (r : Int32) (u : (Int32)) => Post r u) (zB (dC, dI) vwCl (tX1 cA) (wX1 ad cA nW nH th fn wd dk mn cs nx gs pr ln wy ct bf sg my) sz (fun u : (Int32) => wX1 ad cA nW nH u fn wd dk mn cs nx gs pr ln wy ct bf sg my)) (va_A (wX1 ad cA nW nH th fn wd dk mn cs nx gs pr ln wy ct bf sg my) sz)) 0 0 (va_A (wX1 ad cA nW nH th fn wd dk mn cs nx gs pr ln wy ct bf sg my) sz) := by
  refine Met.ofW (cc := cX1_slant) (maxL := 6) (ret := (some .int)) (by decide) rfl ?_
  intro p e s m args below meth c s₁ B hml hv
  obtain ⟨rfl, hsz, hP, hK, hD0⟩ := hv
  have hC : zC p s m [.ref (ad 0)].toArray meth c cX1_slant wsX1_slant (some .int) 6 RX1 := ⟨B.exec, B.bytes, B.returns, hml, findClass_of_methodNamed B.named, atoms_spec (ws := wsX1_slant) B.pre, B.notSynchronized⟩
  have hC0 := hC
  obtain ⟨hx, hb, hr, hml, hown, hts, hlocks⟩ := hC
  subst hsz
  have hD := hD0.self (sz := s.heap.size)
  have hA : ∀ q : Nat, s.heap.size ≤ q → va_A (wX1 ad cA nW nH th fn wd dk mn cs nx gs pr ln wy ct bf sg my) s.heap.size q := fun q h => Or.inr h
  have hS : va_S (va_A (wX1 ad cA nW nH th fn wd dk mn cs nx gs pr ln wy ct bf sg my) s.heap.size) s.heap s.heap [] := va_S.rf
  generalize hQe : (va_Qi (S := (Int32)) (fun (r : Int32) (u : (Int32)) => Post r u) (zB (dC, dI) vwCl (tX1 cA) (wX1 ad cA nW nH th fn wd dk mn cs nx gs pr ln wy ct bf sg my) s.heap.size (fun u : (Int32) => wX1 ad cA nW nH u fn wd dk mn cs nx gs pr ln wy ct bf sg my)) (va_A (wX1 ad cA nW nH th fn wd dk mn cs nx gs pr ln wy ct bf sg my) s.heap.size)) = Qc
  generalize hAe : va_A (wX1 ad cA nW nH th fn wd dk mn cs nx gs pr ln wy ct bf sg my) s.heap.size = A at hD hA hS hQe ⊢
  have hQ : ∀ (r : Int32) (th : Int32) (H : Heap) (locs : List Loc), va_P (dC, dI) vwCl (wX1 ad cA nW nH th fn wd dk mn cs nx gs pr ln wy ct bf sg my) H → va_D A (wX1 ad cA nW nH th fn wd dk mn cs nx gs pr ln wy ct bf sg my) → va_S A s.heap H locs → Post r th → ∀ t : State, t.heap = H → s.WarmedH t.vm → Qc [.ref (ad 0)].toArray s (.returned (some (.int r))) t := by
    intro r th H locs hP hD hS h t ht hW
    rw [← hQe]
    exact ⟨⟨r, th, rfl, h, by rw [ht]; exact hP, va_K.moved hW.alike hK, hAe ▸ hD⟩, hS.F ht⟩
  clear hQe hAe
  have hl := lv_entry ([.ref (ad 0)]) (n := 6) (Nat.le_of_ble_eq_true rfl)
  rw [lg_entry_eq]
  generalize (lg_sl ([.ref (ad 0)]) ++ List.replicate (6 - (lg_sl ([.ref (ad 0)])).length) Slot.unset).toArray = ls at hl ⊢
  have hl : lv_has ls 6 [(0, .ref (ad 0))] := hl
  show W p l e ({ frames := 2, cells := 0, slots := 0, locals := 49 } : Room) s m _ below meth c s.heap [] 0 0 (MQ below Qc _ s 0 0 A) (F0 m 0 ls [])
  unfold wX1_slant at h
  refine lv_aload_n hx hb dX1_slant_0 rfl (lv_at hl 0 rfl) ?_
  refine lv_iconst (v := 0) hx hb dX1_slant_1 (by decide) ?_
  refine va_put (D := (dC, dI)) (ci := 2) (v := .int 0) (ty := .int) (C := RX1) (T := TX1) (N := 17) hx hb hts in_X1_slant tyX1 tyX1_ok nmX1 hown hK hP hD hS 0 rfl rfl 0 (by decide) (hts (.fieldLink RX1 55 "SignCutterModel" "thrown" "I") (by decide +kernel)) (fun _ h9 => h9) rfl (by decide +kernel) rfl rfl (Nat.le_of_ble_eq_true rfl) dX1_slant_2 (fun H locs hP hD hS => ?_)
  have hP : va_P (dC, dI) vwCl (wX1 ad cA nW nH 0 fn wd dk mn cs nx gs pr ln wy ct bf sg my) H := hP
  have hD : va_D A (wX1 ad cA nW nH 0 fn wd dk mn cs nx gs pr ln wy ct bf sg my) := hD
  refine lv_iconst (v := 0) hx hb dX1_slant_5 (by decide) ?_
  refine lv_istore_n (lv' := [(1, .int 0), (0, .ref (ad 0))]) hx hb dX1_slant_6 rfl hl (by decide) rfl (fun ls hl => ?_)
  refine lv_aload_n hx hb dX1_slant_7 rfl (lv_at hl 1 rfl) ?_
  refine lv_iconst (v := 0) hx hb dX1_slant_8 (by decide) ?_
  refine z_cVi (ci := 2) (As := [.int 0]) (rest := []) ⟨hx, hb, hml, hown, hts⟩ (mX1_columns l h) (cwV 1 hts gX1_slant_X1_columns rfl rfl rfl (by decide +kernel) ⟨Nat.le_of_ble_eq_true rfl, Nat.le_of_ble_eq_true rfl⟩) hK hP 0 rfl rfl rfl rfl hl.1 rfl (Nat.le_of_ble_eq_true rfl) dX1_slant_9 ⟨Nat.le_of_ble_eq_true rfl, Nat.le_of_ble_eq_true rfl⟩ (fun r_1 h => ?_)
  refine lv_istore_n (lv' := [(2, .int r_1), (1, .int 0), (0, .ref (ad 0))]) hx hb dX1_slant_12 rfl hl (by decide) rfl (fun ls hl => ?_)
  refine lv_iconst (v := 1) hx hb dX1_slant_13 (by decide) ?_
  refine lv_istore_n (lv' := [(3, .int 1), (2, .int r_1), (1, .int 0), (0, .ref (ad 0))]) hx hb dX1_slant_14 rfl hl (by decide) rfl (fun ls hl => ?_)
  obtain ⟨n_4, h⟩ := h
  exact tX1_slant_15 hC0 hK hA hQ n_4 _ _ _ _ _ _ hP hD hS ls (lv_sub hl [3, 2, 1, 0] rfl) h
theorem in_X1_plain : ∀ w ∈ wsX10, w ∈ wsX1_plain := by decide +kernel
set_option maxHeartbeats 4000000 in
set_option maxRecDepth 100000 in
theorem tX1_plain_222 {p : Program} {l : Launch} {e : Env} {s : State} {m : MethodId} {args : Array Value} {below : List Frame} {meth : Method} {c : Code} {dC : Nat → ClassId} {dI : Nat → Nat → Nat} {ad : Nat → Nat} {cA : Nat → ClassId} {nW : Nat} {nH : Nat} {fn : Int32} {dk : Nat → Int32} {mn : Nat → Int32} {cs : Nat → Int64} {nx : Nat → Int32} {gs : Nat → Int32} {pr : Nat → Int64} {ln : Nat → Int32} {wy : Nat → Int32} {a1 : Int32} {Post : Int32 → (Int32) → (Int32) → (Nat → Int64) → (Nat → Int64) → (Nat → Int64) → (Nat → Int32) → Prop} (hC : zC p s m args meth c cX1_plain wsX1_plain (some .int) 7 RX1) (hK : va_K (dC, dI) vwCl (tX1 cA) s) {A : Nat → Prop} (hA : ∀ q, s.heap.size ≤ q → A q) {Qc : Array Value → State → Outcome → State → Prop} (hQ : ∀ (r : Int32) (th : Int32) (wd : Int32) (ct : Nat → Int64) (bf : Nat → Int64) (sg : Nat → Int64) (my : Nat → Int32) (H : Heap) (locs : List Loc), va_P (dC, dI) vwCl (wX1 ad cA nW nH th fn wd dk mn cs nx gs pr ln wy ct bf sg my) H → va_D A (wX1 ad cA nW nH th fn wd dk mn cs nx gs pr ln wy ct bf sg my) → va_S A s.heap H locs → Post r th wd ct bf sg my → ∀ t : State, t.heap = H → s.WarmedH t.vm → Qc args s (.returned (some (.int r))) t) {r78 : Int32 → Int32 → Int32 → (Int32) → (Int32) → (Nat → Int64) → (Nat → Int64) → (Nat → Int64) → (Nat → Int32) → Prop} (hr78 : ∀ (x2 : Int32) (x3 : Int32) (x4 : Int32) (th : Int32) (wd : Int32) (ct : Nat → Int64) (bf : Nat → Int64) (sg : Nat → Int64) (my : Nat → Int32) (H : Heap) (locs : List Loc), va_P (dC, dI) vwCl (wX1 ad cA nW nH th fn wd dk mn cs nx gs pr ln wy ct bf sg my) H → va_D A (wX1 ad cA nW nH th fn wd dk mn cs nx gs pr ln wy ct bf sg my) → va_S A s.heap H locs → ∀ (ls : Array Slot), lv_has ls 7 [(0, .ref (ad 0)), (1, .int a1), (2, .int x2), (3, .int x3), (4, .int x4)] → r78 x2 x3 x4 th wd ct bf sg my → W p l e ({ frames := 6, cells := 0, slots := 0, locals := 133 } : Room) s m args below meth c H locs 0 0 (MQ below Qc args s 0 0 A) (F0 m 78 ls [])) : ∀ (n : Nat), ∀ (x2 : Int32) (x3 : Int32) (x4 : Int32) (x5 : Int32) (th : Int32) (wd : Int32) (ct : Nat → Int64) (bf : Nat → Int64) (sg : Nat → Int64) (my : Nat → Int32) (H : Heap) (locs : List Loc), va_P (dC, dI) vwCl (wX1 ad cA nW nH th fn wd dk mn cs nx gs pr ln wy ct bf sg my) H → va_D A (wX1 ad cA nW nH th fn wd dk mn cs nx gs pr ln wy ct bf sg my) → va_S A s.heap H locs → ∀ (ls : Array Slot), lv_has ls 7 [(0, .ref (ad 0)), (1, .int a1), (2, .int x2), (3, .int x3), (4, .int x4), (5, .int x5)] → lX1_plain_222 nW nH dk a1 Post r78 n x2 x3 x4 x5 th wd ct bf sg my → W p l e ({ frames := 6, cells := 0, slots := 0, locals := 133 } : Room) s m args below meth c H locs 0 0 (MQ below Qc args s 0 0 A) (F0 m 222 ls []) := by
  have hC0 := hC
  obtain ⟨hx, hb, hr, hml, hown, hts, hlocks⟩ := hC
  intro n
  induction n with
  | zero =>
    intro x2 x3 x4 x5 th wd ct bf sg my H locs hP hD hS ls hl h
    exact h.elim
  | succ n hr222 =>
    intro x2 x3 x4 x5 th wd ct bf sg my H locs hP hD hS ls hl h
    have h : bX1_plain_222 nW nH dk a1 Post r78 (lX1_plain_222 nW nH dk a1 Post r78 n) x2 x3 x4 x5 th wd ct bf sg my := h
    unfold bX1_plain_222 at h
    refine lv_iload hx hb dX1_plain_222 (lv_at hl 5 rfl) ?_
    refine lv_iload_n hx hb dX1_plain_224 rfl (lv_at hl 3 rfl) ?_
    refine lv_icmp_gt (tgt := 266) hx hb dX1_plain_225 (by decide) (fun c => ?_) (fun c => ?_)
    · have h := h.1 c
      refine lv_iinc (v := (x4 + 1)) (lv' := [(4, .int (x4 + 1)), (0, .ref (ad 0)), (1, .int a1), (2, .int x2), (3, .int x3), (5, .int x5)]) hx hb dX1_plain_266 hl (k := 4) rfl rfl (by decide) rfl (fun ls hl => ?_)
      refine lv_goto (tgt := 78) hx hb dX1_plain_269 (by decide) ?_
      exact hr78 _ _ _ _ _ _ _ _ _ _ _ hP hD hS ls (lv_sub hl [1, 2, 3, 4, 0] rfl) h
    · have h := h.2 c
      refine lv_aload_n hx hb dX1_plain_228 rfl (lv_at hl 0 rfl) ?_
      refine va_get (D := (dC, dI)) (ci := 2) (v := .ref (ad 10)) (C := RX1) (T := TX1) (N := 17) hx hb hts in_X1_plain hown hK hP 0 rfl rfl 13 (by decide) (hts (.fieldLink RX1 39 "SignCutterModel" "before" "[J") (by decide +kernel)) (fun _ h9 => h9) rfl dX1_plain_229 ?_
      refine lv_iload hx hb dX1_plain_232 (lv_at hl 5 rfl) ?_
      refine lv_iload hx hb dX1_plain_234 (lv_at hl 5 rfl) ?_
      refine lv_iload_n hx hb dX1_plain_236 rfl (lv_at hl 3 rfl) ?_
      refine lv_icmp_ne (tgt := 252) hx hb dX1_plain_237 (by decide) (fun c => ?_) (fun c => ?_)
      · have h := h.2 c
        refine lv_aload_n hx hb dX1_plain_252 rfl (lv_at hl 0 rfl) ?_
        refine va_get (D := (dC, dI)) (ci := 2) (v := .ref (ad 9)) (C := RX1) (T := TX1) (N := 17) hx hb hts in_X1_plain hown hK hP 0 rfl rfl 12 (by decide) (hts (.fieldLink RX1 36 "SignCutterModel" "counts" "[J") (by decide +kernel)) (fun _ h9 => h9) rfl dX1_plain_253 ?_
        refine lv_iload hx hb dX1_plain_256 (lv_at hl 5 rfl) ?_
        refine z_lald hx hb hK hP 9 8 rfl rfl h dX1_plain_258 (fun j_10 h => ?_)
        refine z_last hx hb hK hP hD hS 10 9 rfl rfl h dX1_plain_259 (fun j_11 H locs h hP hD hS => ?_)
        have hP : va_P (dC, dI) vwCl (wX1 ad cA nW nH th fn wd dk mn cs nx gs pr ln wy ct (vp_updL bf j_11 (ct j_10)) sg my) H := hP
        have hD : va_D A (wX1 ad cA nW nH th fn wd dk mn cs nx gs pr ln wy ct (vp_updL bf j_11 (ct j_10)) sg my) := hD
        refine lv_iinc (v := (x5 + 1)) (lv' := [(5, .int (x5 + 1)), (0, .ref (ad 0)), (1, .int a1), (2, .int x2), (3, .int x3), (4, .int x4)]) hx hb dX1_plain_260 hl (k := 5) rfl rfl (by decide) rfl (fun ls hl => ?_)
        refine lv_goto (tgt := 222) hx hb dX1_plain_263 (by decide) ?_
        exact hr222 _ _ _ _ _ _ _ _ _ _ _ _ hP hD hS ls (lv_sub hl [1, 2, 3, 4, 5, 0] rfl) h
      · have h := h.1 c
        refine lv_iload hx hb dX1_plain_240 (lv_at hl 4 rfl) ?_
        refine lv_iload_n hx hb dX1_plain_242 rfl (lv_at hl 1 rfl) ?_
        refine lv_iconst (v := 1) hx hb dX1_plain_243 (by decide) ?_
        refine lv_isub hx hb dX1_plain_244 ?_
        refine lv_icmp_ge (tgt := 252) hx hb dX1_plain_245 (by decide) (fun c => ?_) (fun c => ?_)
        · have h := h.1 c
          refine lv_aload_n hx hb dX1_plain_252 rfl (lv_at hl 0 rfl) ?_
          refine va_get (D := (dC, dI)) (ci := 2) (v := .ref (ad 9)) (C := RX1) (T := TX1) (N := 17) hx hb hts in_X1_plain hown hK hP 0 rfl rfl 12 (by decide) (hts (.fieldLink RX1 36 "SignCutterModel" "counts" "[J") (by decide +kernel)) (fun _ h9 => h9) rfl dX1_plain_253 ?_
          refine lv_iload hx hb dX1_plain_256 (lv_at hl 5 rfl) ?_
          refine z_lald hx hb hK hP 9 8 rfl rfl h dX1_plain_258 (fun j_12 h => ?_)
          refine z_last hx hb hK hP hD hS 10 9 rfl rfl h dX1_plain_259 (fun j_13 H locs h hP hD hS => ?_)
          have hP : va_P (dC, dI) vwCl (wX1 ad cA nW nH th fn wd dk mn cs nx gs pr ln wy ct (vp_updL bf j_13 (ct j_12)) sg my) H := hP
          have hD : va_D A (wX1 ad cA nW nH th fn wd dk mn cs nx gs pr ln wy ct (vp_updL bf j_13 (ct j_12)) sg my) := hD
          refine lv_iinc (v := (x5 + 1)) (lv' := [(5, .int (x5 + 1)), (0, .ref (ad 0)), (1, .int a1), (2, .int x2), (3, .int x3), (4, .int x4)]) hx hb dX1_plain_260 hl (k := 5) rfl rfl (by decide) rfl (fun ls hl => ?_)
          refine lv_goto (tgt := 222) hx hb dX1_plain_263 (by decide) ?_
          exact hr222 _ _ _ _ _ _ _ _ _ _ _ _ hP hD hS ls (lv_sub hl [1, 2, 3, 4, 5, 0] rfl) h
        · have h := h.2 c
          refine lv_lconst (v := 0) hx hb dX1_plain_248 (by decide) ?_
          refine lv_goto (tgt := 259) hx hb dX1_plain_249 (by decide) ?_
          refine z_last hx hb hK hP hD hS 10 9 rfl rfl h dX1_plain_259 (fun j_14 H locs h hP hD hS => ?_)
          have hP : va_P (dC, dI) vwCl (wX1 ad cA nW nH th fn wd dk mn cs nx gs pr ln wy ct (vp_updL bf j_14 0) sg my) H := hP
          have hD : va_D A (wX1 ad cA nW nH th fn wd dk mn cs nx gs pr ln wy ct (vp_updL bf j_14 0) sg my) := hD
          refine lv_iinc (v := (x5 + 1)) (lv' := [(5, .int (x5 + 1)), (0, .ref (ad 0)), (1, .int a1), (2, .int x2), (3, .int x3), (4, .int x4)]) hx hb dX1_plain_260 hl (k := 5) rfl rfl (by decide) rfl (fun ls hl => ?_)
          refine lv_goto (tgt := 222) hx hb dX1_plain_263 (by decide) ?_
          exact hr222 _ _ _ _ _ _ _ _ _ _ _ _ hP hD hS ls (lv_sub hl [1, 2, 3, 4, 5, 0] rfl) h
set_option maxHeartbeats 4000000 in
set_option maxRecDepth 100000 in
theorem tX1_plain_104 {p : Program} {l : Launch} {e : Env} {s : State} {m : MethodId} {args : Array Value} {below : List Frame} {meth : Method} {c : Code} {dC : Nat → ClassId} {dI : Nat → Nat → Nat} {ad : Nat → Nat} {cA : Nat → ClassId} {nW : Nat} {nH : Nat} {fn : Int32} {dk : Nat → Int32} {mn : Nat → Int32} {cs : Nat → Int64} {nx : Nat → Int32} {gs : Nat → Int32} {pr : Nat → Int64} {ln : Nat → Int32} {wy : Nat → Int32} {a1 : Int32} {Post : Int32 → (Int32) → (Int32) → (Nat → Int64) → (Nat → Int64) → (Nat → Int64) → (Nat → Int32) → Prop} (hC : zC p s m args meth c cX1_plain wsX1_plain (some .int) 7 RX1) (hK : va_K (dC, dI) vwCl (tX1 cA) s) {A : Nat → Prop} (hA : ∀ q, s.heap.size ≤ q → A q) {Qc : Array Value → State → Outcome → State → Prop} (hQ : ∀ (r : Int32) (th : Int32) (wd : Int32) (ct : Nat → Int64) (bf : Nat → Int64) (sg : Nat → Int64) (my : Nat → Int32) (H : Heap) (locs : List Loc), va_P (dC, dI) vwCl (wX1 ad cA nW nH th fn wd dk mn cs nx gs pr ln wy ct bf sg my) H → va_D A (wX1 ad cA nW nH th fn wd dk mn cs nx gs pr ln wy ct bf sg my) → va_S A s.heap H locs → Post r th wd ct bf sg my → ∀ t : State, t.heap = H → s.WarmedH t.vm → Qc args s (.returned (some (.int r))) t) {r78 : Int32 → Int32 → Int32 → (Int32) → (Int32) → (Nat → Int64) → (Nat → Int64) → (Nat → Int64) → (Nat → Int32) → Prop} (hr78 : ∀ (x2 : Int32) (x3 : Int32) (x4 : Int32) (th : Int32) (wd : Int32) (ct : Nat → Int64) (bf : Nat → Int64) (sg : Nat → Int64) (my : Nat → Int32) (H : Heap) (locs : List Loc), va_P (dC, dI) vwCl (wX1 ad cA nW nH th fn wd dk mn cs nx gs pr ln wy ct bf sg my) H → va_D A (wX1 ad cA nW nH th fn wd dk mn cs nx gs pr ln wy ct bf sg my) → va_S A s.heap H locs → ∀ (ls : Array Slot), lv_has ls 7 [(0, .ref (ad 0)), (1, .int a1), (2, .int x2), (3, .int x3), (4, .int x4)] → r78 x2 x3 x4 th wd ct bf sg my → W p l e ({ frames := 6, cells := 0, slots := 0, locals := 133 } : Room) s m args below meth c H locs 0 0 (MQ below Qc args s 0 0 A) (F0 m 78 ls [])) {r87 : Int32 → Int32 → Int32 → Int32 → (Int32) → (Int32) → (Nat → Int64) → (Nat → Int64) → (Nat → Int64) → (Nat → Int32) → Prop} (hr87 : ∀ (x2 : Int32) (x3 : Int32) (x4 : Int32) (x5 : Int32) (th : Int32) (wd : Int32) (ct : Nat → Int64) (bf : Nat → Int64) (sg : Nat → Int64) (my : Nat → Int32) (H : Heap) (locs : List Loc), va_P (dC, dI) vwCl (wX1 ad cA nW nH th fn wd dk mn cs nx gs pr ln wy ct bf sg my) H → va_D A (wX1 ad cA nW nH th fn wd dk mn cs nx gs pr ln wy ct bf sg my) → va_S A s.heap H locs → ∀ (ls : Array Slot), lv_has ls 7 [(0, .ref (ad 0)), (1, .int a1), (2, .int x2), (3, .int x3), (4, .int x4), (5, .int x5)] → r87 x2 x3 x4 x5 th wd ct bf sg my → W p l e ({ frames := 6, cells := 0, slots := 0, locals := 133 } : Room) s m args below meth c H locs 0 0 (MQ below Qc args s 0 0 A) (F0 m 87 ls [])) : ∀ (n : Nat), ∀ (x2 : Int32) (x3 : Int32) (x4 : Int32) (x5 : Int32) (x6 : Int32) (th : Int32) (wd : Int32) (ct : Nat → Int64) (bf : Nat → Int64) (sg : Nat → Int64) (my : Nat → Int32) (H : Heap) (locs : List Loc), va_P (dC, dI) vwCl (wX1 ad cA nW nH th fn wd dk mn cs nx gs pr ln wy ct bf sg my) H → va_D A (wX1 ad cA nW nH th fn wd dk mn cs nx gs pr ln wy ct bf sg my) → va_S A s.heap H locs → ∀ (ls : Array Slot), lv_has ls 7 [(0, .ref (ad 0)), (1, .int a1), (2, .int x2), (3, .int x3), (4, .int x4), (5, .int x5), (6, .int x6)] → lX1_plain_104 nW nH dk a1 Post r78 r87 n x2 x3 x4 x5 x6 th wd ct bf sg my → W p l e ({ frames := 6, cells := 0, slots := 0, locals := 133 } : Room) s m args below meth c H locs 0 0 (MQ below Qc args s 0 0 A) (F0 m 104 ls []) := by
  have hC0 := hC
  obtain ⟨hx, hb, hr, hml, hown, hts, hlocks⟩ := hC
  intro n
  induction n with
  | zero =>
    intro x2 x3 x4 x5 x6 th wd ct bf sg my H locs hP hD hS ls hl h
    exact h.elim
  | succ n hr104 =>
    intro x2 x3 x4 x5 x6 th wd ct bf sg my H locs hP hD hS ls hl h
    have h : bX1_plain_104 nW nH dk a1 Post r78 r87 (lX1_plain_104 nW nH dk a1 Post r78 r87 n) x2 x3 x4 x5 x6 th wd ct bf sg my := h
    unfold bX1_plain_104 at h
    refine lv_iload hx hb dX1_plain_104 (lv_at hl 6 rfl) ?_
    refine lv_iload hx hb dX1_plain_106 (lv_at hl 5 rfl) ?_
    refine lv_icmp_ge (tgt := 179) hx hb dX1_plain_108 (by decide) (fun c => ?_) (fun c => ?_)
    · have h := h.1 c
      refine lv_aload_n hx hb dX1_plain_179 rfl (lv_at hl 0 rfl) ?_
      refine va_get (D := (dC, dI)) (ci := 2) (v := .ref (ad 9)) (C := RX1) (T := TX1) (N := 17) hx hb hts in_X1_plain hown hK hP 0 rfl rfl 12 (by decide) (hts (.fieldLink RX1 36 "SignCutterModel" "counts" "[J") (by decide +kernel)) (fun _ h9 => h9) rfl dX1_plain_180 ?_
      refine lv_iload hx hb dX1_plain_183 (lv_at hl 5 rfl) ?_
      refine lv_aload_n hx hb dX1_plain_185 rfl (lv_at hl 0 rfl) ?_
      refine va_get (D := (dC, dI)) (ci := 2) (v := .ref (ad 9)) (C := RX1) (T := TX1) (N := 17) hx hb hts in_X1_plain hown hK hP 0 rfl rfl 12 (by decide) (hts (.fieldLink RX1 36 "SignCutterModel" "counts" "[J") (by decide +kernel)) (fun _ h9 => h9) rfl dX1_plain_186 ?_
      refine lv_iload hx hb dX1_plain_189 (lv_at hl 5 rfl) ?_
      refine z_lald hx hb hK hP 9 8 rfl rfl h dX1_plain_191 (fun j_17 h => ?_)
      refine lv_ldc2 hx hb hown (hts (.constantLong RX1 131 (1000000000)) (by decide +kernel)) dX1_plain_192 ?_
      refine W.lcmp hx hb dX1_plain_195 ?_
      refine lv_if_le (tgt := 205) hx hb dX1_plain_196 (by decide) (fun c => ?_) (fun c => ?_)
      · have h := h.1 c
        refine lv_aload_n hx hb dX1_plain_205 rfl (lv_at hl 0 rfl) ?_
        refine va_get (D := (dC, dI)) (ci := 2) (v := .ref (ad 9)) (C := RX1) (T := TX1) (N := 17) hx hb hts in_X1_plain hown hK hP 0 rfl rfl 12 (by decide) (hts (.fieldLink RX1 36 "SignCutterModel" "counts" "[J") (by decide +kernel)) (fun _ h9 => h9) rfl dX1_plain_206 ?_
        refine lv_iload hx hb dX1_plain_209 (lv_at hl 5 rfl) ?_
        refine z_lald hx hb hK hP 9 8 rfl rfl h dX1_plain_211 (fun j_18 h => ?_)
        refine z_last hx hb hK hP hD hS 9 8 rfl rfl h dX1_plain_212 (fun j_19 H locs h hP hD hS => ?_)
        have hP : va_P (dC, dI) vwCl (wX1 ad cA nW nH th fn wd dk mn cs nx gs pr ln wy (vp_updL ct j_19 (ct j_18)) bf sg my) H := hP
        have hD : va_D A (wX1 ad cA nW nH th fn wd dk mn cs nx gs pr ln wy (vp_updL ct j_19 (ct j_18)) bf sg my) := hD
        refine lv_iinc (v := (x5 + 1)) (lv' := [(5, .int (x5 + 1)), (0, .ref (ad 0)), (1, .int a1), (2, .int x2), (3, .int x3), (4, .int x4), (6, .int x6)]) hx hb dX1_plain_213 hl (k := 5) rfl rfl (by decide) rfl (fun ls hl => ?_)
        refine lv_goto (tgt := 87) hx hb dX1_plain_216 (by decide) ?_
        exact hr87 _ _ _ _ _ _ _ _ _ _ _ _ hP hD hS ls (lv_sub hl [1, 2, 3, 4, 5, 0] rfl) h
      · have h := h.2 c
        refine lv_ldc2 hx hb hown (hts (.constantLong RX1 131 (1000000000)) (by decide +kernel)) dX1_plain_199 ?_
        refine lv_goto (tgt := 212) hx hb dX1_plain_202 (by decide) ?_
        refine z_last hx hb hK hP hD hS 9 8 rfl rfl h dX1_plain_212 (fun j_20 H locs h hP hD hS => ?_)
        have hP : va_P (dC, dI) vwCl (wX1 ad cA nW nH th fn wd dk mn cs nx gs pr ln wy (vp_updL ct j_20 1000000000) bf sg my) H := hP
        have hD : va_D A (wX1 ad cA nW nH th fn wd dk mn cs nx gs pr ln wy (vp_updL ct j_20 1000000000) bf sg my) := hD
        refine lv_iinc (v := (x5 + 1)) (lv' := [(5, .int (x5 + 1)), (0, .ref (ad 0)), (1, .int a1), (2, .int x2), (3, .int x3), (4, .int x4), (6, .int x6)]) hx hb dX1_plain_213 hl (k := 5) rfl rfl (by decide) rfl (fun ls hl => ?_)
        refine lv_goto (tgt := 87) hx hb dX1_plain_216 (by decide) ?_
        exact hr87 _ _ _ _ _ _ _ _ _ _ _ _ hP hD hS ls (lv_sub hl [1, 2, 3, 4, 5, 0] rfl) h
    · have h := h.2 c
      refine lv_aload_n hx hb dX1_plain_111 rfl (lv_at hl 0 rfl) ?_
      refine va_get (D := (dC, dI)) (ci := 2) (v := .ref (ad 9)) (C := RX1) (T := TX1) (N := 17) hx hb hts in_X1_plain hown hK hP 0 rfl rfl 12 (by decide) (hts (.fieldLink RX1 36 "SignCutterModel" "counts" "[J") (by decide +kernel)) (fun _ h9 => h9) rfl dX1_plain_112 ?_
      refine lv_iload hx hb dX1_plain_115 (lv_at hl 5 rfl) ?_
      refine lv_aload_n hx hb dX1_plain_117 rfl (lv_at hl 0 rfl) ?_
      refine va_get (D := (dC, dI)) (ci := 2) (v := .ref (ad 10)) (C := RX1) (T := TX1) (N := 17) hx hb hts in_X1_plain hown hK hP 0 rfl rfl 13 (by decide) (hts (.fieldLink RX1 39 "SignCutterModel" "before" "[J") (by decide +kernel)) (fun _ h9 => h9) rfl dX1_plain_118 ?_
      refine lv_iload hx hb dX1_plain_121 (lv_at hl 6 rfl) ?_
      refine z_lald hx hb hK hP 10 9 rfl rfl h dX1_plain_123 (fun j_21 h => ?_)
      refine lv_lconst (v := 0) hx hb dX1_plain_124 (by decide) ?_
      refine W.lcmp hx hb dX1_plain_125 ?_
      refine lv_if_le (tgt := 165) hx hb dX1_plain_126 (by decide) (fun c => ?_) (fun c => ?_)
      · have h := h.1 c
        refine lv_aload_n hx hb dX1_plain_165 rfl (lv_at hl 0 rfl) ?_
        refine va_get (D := (dC, dI)) (ci := 2) (v := .ref (ad 9)) (C := RX1) (T := TX1) (N := 17) hx hb hts in_X1_plain hown hK hP 0 rfl rfl 12 (by decide) (hts (.fieldLink RX1 36 "SignCutterModel" "counts" "[J") (by decide +kernel)) (fun _ h9 => h9) rfl dX1_plain_166 ?_
        refine lv_iload hx hb dX1_plain_169 (lv_at hl 5 rfl) ?_
        refine z_lald hx hb hK hP 9 8 rfl rfl h dX1_plain_171 (fun j_22 h => ?_)
        refine z_last hx hb hK hP hD hS 9 8 rfl rfl h dX1_plain_172 (fun j_23 H locs h hP hD hS => ?_)
        have hP : va_P (dC, dI) vwCl (wX1 ad cA nW nH th fn wd dk mn cs nx gs pr ln wy (vp_updL ct j_23 (ct j_22)) bf sg my) H := hP
        have hD : va_D A (wX1 ad cA nW nH th fn wd dk mn cs nx gs pr ln wy (vp_updL ct j_23 (ct j_22)) bf sg my) := hD
        refine lv_iinc (v := (x6 + 1)) (lv' := [(6, .int (x6 + 1)), (0, .ref (ad 0)), (1, .int a1), (2, .int x2), (3, .int x3), (4, .int x4), (5, .int x5)]) hx hb dX1_plain_173 hl (k := 6) rfl rfl (by decide) rfl (fun ls hl => ?_)
        refine lv_goto (tgt := 104) hx hb dX1_plain_176 (by decide) ?_
        exact hr104 _ _ _ _ _ _ _ _ _ _ _ _ _ hP hD hS ls (lv_sub hl [1, 2, 3, 4, 5, 6, 0] rfl) h
      · have h := h.2 c
        refine lv_aload_n hx hb dX1_plain_129 rfl (lv_at hl 0 rfl) ?_
        refine va_get (D := (dC, dI)) (ci := 2) (v := .ref (ad 11)) (C := RX1) (T := TX1) (N := 17) hx hb hts in_X1_plain hown hK hP 0 rfl rfl 14 (by decide) (hts (.fieldLink RX1 42 "SignCutterModel" "signs" "[J") (by decide +kernel)) (fun _ h9 => h9) rfl dX1_plain_130 ?_
        refine lv_bipush (v := 61) hx hb dX1_plain_133 (by decide) ?_
        refine lv_iload hx hb dX1_plain_135 (lv_at hl 6 rfl) ?_
        refine lv_imul hx hb dX1_plain_137 ?_
        refine lv_iload hx hb dX1_plain_138 (lv_at hl 5 rfl) ?_
        refine lv_iadd hx hb dX1_plain_140 ?_
        refine z_lald hx hb hK hP 11 10 rfl rfl h dX1_plain_141 (fun j_24 h => ?_)
        refine lv_lconst (v := 0) hx hb dX1_plain_142 (by decide) ?_
        refine W.lcmp hx hb dX1_plain_143 ?_
        refine lv_if_lt (tgt := 165) hx hb dX1_plain_144 (by decide) (fun c => ?_) (fun c => ?_)
        · have h := h.1 c
          refine lv_aload_n hx hb dX1_plain_165 rfl (lv_at hl 0 rfl) ?_
          refine va_get (D := (dC, dI)) (ci := 2) (v := .ref (ad 9)) (C := RX1) (T := TX1) (N := 17) hx hb hts in_X1_plain hown hK hP 0 rfl rfl 12 (by decide) (hts (.fieldLink RX1 36 "SignCutterModel" "counts" "[J") (by decide +kernel)) (fun _ h9 => h9) rfl dX1_plain_166 ?_
          refine lv_iload hx hb dX1_plain_169 (lv_at hl 5 rfl) ?_
          refine z_lald hx hb hK hP 9 8 rfl rfl h dX1_plain_171 (fun j_25 h => ?_)
          refine z_last hx hb hK hP hD hS 9 8 rfl rfl h dX1_plain_172 (fun j_26 H locs h hP hD hS => ?_)
          have hP : va_P (dC, dI) vwCl (wX1 ad cA nW nH th fn wd dk mn cs nx gs pr ln wy (vp_updL ct j_26 (ct j_25)) bf sg my) H := hP
          have hD : va_D A (wX1 ad cA nW nH th fn wd dk mn cs nx gs pr ln wy (vp_updL ct j_26 (ct j_25)) bf sg my) := hD
          refine lv_iinc (v := (x6 + 1)) (lv' := [(6, .int (x6 + 1)), (0, .ref (ad 0)), (1, .int a1), (2, .int x2), (3, .int x3), (4, .int x4), (5, .int x5)]) hx hb dX1_plain_173 hl (k := 6) rfl rfl (by decide) rfl (fun ls hl => ?_)
          refine lv_goto (tgt := 104) hx hb dX1_plain_176 (by decide) ?_
          exact hr104 _ _ _ _ _ _ _ _ _ _ _ _ _ hP hD hS ls (lv_sub hl [1, 2, 3, 4, 5, 6, 0] rfl) h
        · have h := h.2 c
          refine lv_aload_n hx hb dX1_plain_147 rfl (lv_at hl 0 rfl) ?_
          refine va_get (D := (dC, dI)) (ci := 2) (v := .ref (ad 9)) (C := RX1) (T := TX1) (N := 17) hx hb hts in_X1_plain hown hK hP 0 rfl rfl 12 (by decide) (hts (.fieldLink RX1 36 "SignCutterModel" "counts" "[J") (by decide +kernel)) (fun _ h9 => h9) rfl dX1_plain_148 ?_
          refine lv_iload hx hb dX1_plain_151 (lv_at hl 5 rfl) ?_
          refine z_lald hx hb hK hP 9 8 rfl rfl h dX1_plain_153 (fun j_27 h => ?_)
          refine lv_aload_n hx hb dX1_plain_154 rfl (lv_at hl 0 rfl) ?_
          refine va_get (D := (dC, dI)) (ci := 2) (v := .ref (ad 10)) (C := RX1) (T := TX1) (N := 17) hx hb hts in_X1_plain hown hK hP 0 rfl rfl 13 (by decide) (hts (.fieldLink RX1 39 "SignCutterModel" "before" "[J") (by decide +kernel)) (fun _ h9 => h9) rfl dX1_plain_155 ?_
          refine lv_iload hx hb dX1_plain_158 (lv_at hl 6 rfl) ?_
          refine z_lald hx hb hK hP 10 9 rfl rfl h dX1_plain_160 (fun j_28 h => ?_)
          refine lv_ladd hx hb dX1_plain_161 ?_
          refine lv_goto (tgt := 172) hx hb dX1_plain_162 (by decide) ?_
          refine z_last hx hb hK hP hD hS 9 8 rfl rfl h dX1_plain_172 (fun j_29 H locs h hP hD hS => ?_)
          have hP : va_P (dC, dI) vwCl (wX1 ad cA nW nH th fn wd dk mn cs nx gs pr ln wy (vp_updL ct j_29 ((ct j_27) + (bf j_28))) bf sg my) H := hP
          have hD : va_D A (wX1 ad cA nW nH th fn wd dk mn cs nx gs pr ln wy (vp_updL ct j_29 ((ct j_27) + (bf j_28))) bf sg my) := hD
          refine lv_iinc (v := (x6 + 1)) (lv' := [(6, .int (x6 + 1)), (0, .ref (ad 0)), (1, .int a1), (2, .int x2), (3, .int x3), (4, .int x4), (5, .int x5)]) hx hb dX1_plain_173 hl (k := 6) rfl rfl (by decide) rfl (fun ls hl => ?_)
          refine lv_goto (tgt := 104) hx hb dX1_plain_176 (by decide) ?_
          exact hr104 _ _ _ _ _ _ _ _ _ _ _ _ _ hP hD hS ls (lv_sub hl [1, 2, 3, 4, 5, 6, 0] rfl) h
set_option maxHeartbeats 4000000 in
set_option maxRecDepth 100000 in
theorem tX1_plain_87 {p : Program} {l : Launch} {e : Env} {s : State} {m : MethodId} {args : Array Value} {below : List Frame} {meth : Method} {c : Code} {dC : Nat → ClassId} {dI : Nat → Nat → Nat} {ad : Nat → Nat} {cA : Nat → ClassId} {nW : Nat} {nH : Nat} {fn : Int32} {dk : Nat → Int32} {mn : Nat → Int32} {cs : Nat → Int64} {nx : Nat → Int32} {gs : Nat → Int32} {pr : Nat → Int64} {ln : Nat → Int32} {wy : Nat → Int32} {a1 : Int32} {Post : Int32 → (Int32) → (Int32) → (Nat → Int64) → (Nat → Int64) → (Nat → Int64) → (Nat → Int32) → Prop} (hC : zC p s m args meth c cX1_plain wsX1_plain (some .int) 7 RX1) (hK : va_K (dC, dI) vwCl (tX1 cA) s) {A : Nat → Prop} (hA : ∀ q, s.heap.size ≤ q → A q) {Qc : Array Value → State → Outcome → State → Prop} (hQ : ∀ (r : Int32) (th : Int32) (wd : Int32) (ct : Nat → Int64) (bf : Nat → Int64) (sg : Nat → Int64) (my : Nat → Int32) (H : Heap) (locs : List Loc), va_P (dC, dI) vwCl (wX1 ad cA nW nH th fn wd dk mn cs nx gs pr ln wy ct bf sg my) H → va_D A (wX1 ad cA nW nH th fn wd dk mn cs nx gs pr ln wy ct bf sg my) → va_S A s.heap H locs → Post r th wd ct bf sg my → ∀ t : State, t.heap = H → s.WarmedH t.vm → Qc args s (.returned (some (.int r))) t) {r78 : Int32 → Int32 → Int32 → (Int32) → (Int32) → (Nat → Int64) → (Nat → Int64) → (Nat → Int64) → (Nat → Int32) → Prop} (hr78 : ∀ (x2 : Int32) (x3 : Int32) (x4 : Int32) (th : Int32) (wd : Int32) (ct : Nat → Int64) (bf : Nat → Int64) (sg : Nat → Int64) (my : Nat → Int32) (H : Heap) (locs : List Loc), va_P (dC, dI) vwCl (wX1 ad cA nW nH th fn wd dk mn cs nx gs pr ln wy ct bf sg my) H → va_D A (wX1 ad cA nW nH th fn wd dk mn cs nx gs pr ln wy ct bf sg my) → va_S A s.heap H locs → ∀ (ls : Array Slot), lv_has ls 7 [(0, .ref (ad 0)), (1, .int a1), (2, .int x2), (3, .int x3), (4, .int x4)] → r78 x2 x3 x4 th wd ct bf sg my → W p l e ({ frames := 6, cells := 0, slots := 0, locals := 133 } : Room) s m args below meth c H locs 0 0 (MQ below Qc args s 0 0 A) (F0 m 78 ls [])) : ∀ (n : Nat), ∀ (x2 : Int32) (x3 : Int32) (x4 : Int32) (x5 : Int32) (th : Int32) (wd : Int32) (ct : Nat → Int64) (bf : Nat → Int64) (sg : Nat → Int64) (my : Nat → Int32) (H : Heap) (locs : List Loc), va_P (dC, dI) vwCl (wX1 ad cA nW nH th fn wd dk mn cs nx gs pr ln wy ct bf sg my) H → va_D A (wX1 ad cA nW nH th fn wd dk mn cs nx gs pr ln wy ct bf sg my) → va_S A s.heap H locs → ∀ (ls : Array Slot), lv_has ls 7 [(0, .ref (ad 0)), (1, .int a1), (2, .int x2), (3, .int x3), (4, .int x4), (5, .int x5)] → lX1_plain_87 nW nH dk a1 Post r78 n x2 x3 x4 x5 th wd ct bf sg my → W p l e ({ frames := 6, cells := 0, slots := 0, locals := 133 } : Room) s m args below meth c H locs 0 0 (MQ below Qc args s 0 0 A) (F0 m 87 ls []) := by
  have hC0 := hC
  obtain ⟨hx, hb, hr, hml, hown, hts, hlocks⟩ := hC
  intro n
  induction n with
  | zero =>
    intro x2 x3 x4 x5 th wd ct bf sg my H locs hP hD hS ls hl h
    exact h.elim
  | succ n hr87 =>
    intro x2 x3 x4 x5 th wd ct bf sg my H locs hP hD hS ls hl h
    have h : bX1_plain_87 nW nH dk a1 Post r78 (lX1_plain_87 nW nH dk a1 Post r78 n) x2 x3 x4 x5 th wd ct bf sg my := h
    unfold bX1_plain_87 at h
    refine lv_iload hx hb dX1_plain_87 (lv_at hl 5 rfl) ?_
    refine lv_iload_n hx hb dX1_plain_89 rfl (lv_at hl 3 rfl) ?_
    refine lv_icmp_gt (tgt := 219) hx hb dX1_plain_90 (by decide) (fun c => ?_) (fun c => ?_)
    · have h := h.1 c
      refine lv_iload_n hx hb dX1_plain_219 rfl (lv_at hl 2 rfl) ?_
      refine lv_istore (lv' := [(5, .int x2), (0, .ref (ad 0)), (1, .int a1), (2, .int x2), (3, .int x3), (4, .int x4)]) hx hb dX1_plain_220 hl (by decide) rfl (fun ls hl => ?_)
      obtain ⟨n_15, h⟩ := h
      exact tX1_plain_222 hC0 hK hA hQ hr78 n_15 _ _ _ _ _ _ _ _ _ _ _ _ hP hD hS ls (lv_sub hl [1, 2, 3, 4, 5, 0] rfl) h
    · have h := h.2 c
      refine lv_aload_n hx hb dX1_plain_93 rfl (lv_at hl 0 rfl) ?_
      refine va_get (D := (dC, dI)) (ci := 2) (v := .ref (ad 9)) (C := RX1) (T := TX1) (N := 17) hx hb hts in_X1_plain hown hK hP 0 rfl rfl 12 (by decide) (hts (.fieldLink RX1 36 "SignCutterModel" "counts" "[J") (by decide +kernel)) (fun _ h9 => h9) rfl dX1_plain_94 ?_
      refine lv_iload hx hb dX1_plain_97 (lv_at hl 5 rfl) ?_
      refine lv_lconst (v := 0) hx hb dX1_plain_99 (by decide) ?_
      refine z_last hx hb hK hP hD hS 9 8 rfl rfl h dX1_plain_100 (fun j_16 H locs h hP hD hS => ?_)
      have hP : va_P (dC, dI) vwCl (wX1 ad cA nW nH th fn wd dk mn cs nx gs pr ln wy (vp_updL ct j_16 0) bf sg my) H := hP
      have hD : va_D A (wX1 ad cA nW nH th fn wd dk mn cs nx gs pr ln wy (vp_updL ct j_16 0) bf sg my) := hD
      refine lv_iload_n hx hb dX1_plain_101 rfl (lv_at hl 2 rfl) ?_
      refine lv_istore (lv' := [(6, .int x2), (0, .ref (ad 0)), (1, .int a1), (2, .int x2), (3, .int x3), (4, .int x4), (5, .int x5)]) hx hb dX1_plain_102 hl (by decide) rfl (fun ls hl => ?_)
      obtain ⟨n_30, h⟩ := h
      exact tX1_plain_104 hC0 hK hA hQ hr78 hr87 n_30 _ _ _ _ _ _ _ _ _ _ _ _ _ hP hD hS ls (lv_sub hl [1, 2, 3, 4, 5, 6, 0] rfl) h
set_option maxHeartbeats 4000000 in
set_option maxRecDepth 100000 in
theorem tX1_plain_78 {p : Program} {l : Launch} {e : Env} {s : State} {m : MethodId} {args : Array Value} {below : List Frame} {meth : Method} {c : Code} {dC : Nat → ClassId} {dI : Nat → Nat → Nat} {ad : Nat → Nat} {cA : Nat → ClassId} {nW : Nat} {nH : Nat} {fn : Int32} {dk : Nat → Int32} {mn : Nat → Int32} {cs : Nat → Int64} {nx : Nat → Int32} {gs : Nat → Int32} {pr : Nat → Int64} {ln : Nat → Int32} {wy : Nat → Int32} {a1 : Int32} {Post : Int32 → (Int32) → (Int32) → (Nat → Int64) → (Nat → Int64) → (Nat → Int64) → (Nat → Int32) → Prop} (hC : zC p s m args meth c cX1_plain wsX1_plain (some .int) 7 RX1) (hK : va_K (dC, dI) vwCl (tX1 cA) s) {A : Nat → Prop} (hA : ∀ q, s.heap.size ≤ q → A q) {Qc : Array Value → State → Outcome → State → Prop} (hQ : ∀ (r : Int32) (th : Int32) (wd : Int32) (ct : Nat → Int64) (bf : Nat → Int64) (sg : Nat → Int64) (my : Nat → Int32) (H : Heap) (locs : List Loc), va_P (dC, dI) vwCl (wX1 ad cA nW nH th fn wd dk mn cs nx gs pr ln wy ct bf sg my) H → va_D A (wX1 ad cA nW nH th fn wd dk mn cs nx gs pr ln wy ct bf sg my) → va_S A s.heap H locs → Post r th wd ct bf sg my → ∀ t : State, t.heap = H → s.WarmedH t.vm → Qc args s (.returned (some (.int r))) t) : ∀ (n : Nat), ∀ (x2 : Int32) (x3 : Int32) (x4 : Int32) (th : Int32) (wd : Int32) (ct : Nat → Int64) (bf : Nat → Int64) (sg : Nat → Int64) (my : Nat → Int32) (H : Heap) (locs : List Loc), va_P (dC, dI) vwCl (wX1 ad cA nW nH th fn wd dk mn cs nx gs pr ln wy ct bf sg my) H → va_D A (wX1 ad cA nW nH th fn wd dk mn cs nx gs pr ln wy ct bf sg my) → va_S A s.heap H locs → ∀ (ls : Array Slot), lv_has ls 7 [(0, .ref (ad 0)), (1, .int a1), (2, .int x2), (3, .int x3), (4, .int x4)] → lX1_plain_78 nW nH dk a1 Post n x2 x3 x4 th wd ct bf sg my → W p l e ({ frames := 6, cells := 0, slots := 0, locals := 133 } : Room) s m args below meth c H locs 0 0 (MQ below Qc args s 0 0 A) (F0 m 78 ls []) := by
  have hC0 := hC
  obtain ⟨hx, hb, hr, hml, hown, hts, hlocks⟩ := hC
  intro n
  induction n with
  | zero =>
    intro x2 x3 x4 th wd ct bf sg my H locs hP hD hS ls hl h
    exact h.elim
  | succ n hr78 =>
    intro x2 x3 x4 th wd ct bf sg my H locs hP hD hS ls hl h
    have h : bX1_plain_78 nW nH dk a1 Post (lX1_plain_78 nW nH dk a1 Post n) x2 x3 x4 th wd ct bf sg my := h
    unfold bX1_plain_78 at h
    refine lv_iload hx hb dX1_plain_78 (lv_at hl 4 rfl) ?_
    refine lv_iload_n hx hb dX1_plain_80 rfl (lv_at hl 1 rfl) ?_
    refine lv_icmp_ge (tgt := 272) hx hb dX1_plain_81 (by decide) (fun c => ?_) (fun c => ?_)
    · have h := h.1 c
      refine lv_aload_n hx hb dX1_plain_272 rfl (lv_at hl 0 rfl) ?_
      refine va_get (D := (dC, dI)) (ci := 2) (v := .ref (ad 10)) (C := RX1) (T := TX1) (N := 17) hx hb hts in_X1_plain hown hK hP 0 rfl rfl 13 (by decide) (hts (.fieldLink RX1 39 "SignCutterModel" "before" "[J") (by decide +kernel)) (fun _ h9 => h9) rfl dX1_plain_273 ?_
      refine lv_iload_n hx hb dX1_plain_276 rfl (lv_at hl 3 rfl) ?_
      refine z_lald hx hb hK hP 10 9 rfl rfl h dX1_plain_277 (fun j_9 h => ?_)
      refine lv_l2i (v := (Int64.toInt32 (bf j_9))) hx hb dX1_plain_278 rfl ?_
      exact W.iret (v := (Int64.toInt32 (bf j_9))) hx hb hr (hQ _ _ _ _ _ _ _ _ _ hP hD hS h) hS.2.2 dX1_plain_279
    · have h := h.2 c
      refine lv_iload_n hx hb dX1_plain_84 rfl (lv_at hl 2 rfl) ?_
      refine lv_istore (lv' := [(5, .int x2), (0, .ref (ad 0)), (1, .int a1), (2, .int x2), (3, .int x3), (4, .int x4)]) hx hb dX1_plain_85 hl (by decide) rfl (fun ls hl => ?_)
      obtain ⟨n_31, h⟩ := h
      exact tX1_plain_87 hC0 hK hA hQ hr78 n_31 _ _ _ _ _ _ _ _ _ _ _ _ hP hD hS ls (lv_sub hl [1, 2, 3, 4, 5, 0] rfl) h
set_option maxHeartbeats 4000000 in
set_option maxRecDepth 100000 in
theorem tX1_plain_44 {p : Program} {l : Launch} {e : Env} {s : State} {m : MethodId} {args : Array Value} {below : List Frame} {meth : Method} {c : Code} {dC : Nat → ClassId} {dI : Nat → Nat → Nat} {ad : Nat → Nat} {cA : Nat → ClassId} {nW : Nat} {nH : Nat} {fn : Int32} {dk : Nat → Int32} {mn : Nat → Int32} {cs : Nat → Int64} {nx : Nat → Int32} {gs : Nat → Int32} {pr : Nat → Int64} {ln : Nat → Int32} {wy : Nat → Int32} {a1 : Int32} {Post : Int32 → (Int32) → (Int32) → (Nat → Int64) → (Nat → Int64) → (Nat → Int64) → (Nat → Int32) → Prop} (hC : zC p s m args meth c cX1_plain wsX1_plain (some .int) 7 RX1) (hK : va_K (dC, dI) vwCl (tX1 cA) s) {A : Nat → Prop} (hA : ∀ q, s.heap.size ≤ q → A q) {Qc : Array Value → State → Outcome → State → Prop} (hQ : ∀ (r : Int32) (th : Int32) (wd : Int32) (ct : Nat → Int64) (bf : Nat → Int64) (sg : Nat → Int64) (my : Nat → Int32) (H : Heap) (locs : List Loc), va_P (dC, dI) vwCl (wX1 ad cA nW nH th fn wd dk mn cs nx gs pr ln wy ct bf sg my) H → va_D A (wX1 ad cA nW nH th fn wd dk mn cs nx gs pr ln wy ct bf sg my) → va_S A s.heap H locs → Post r th wd ct bf sg my → ∀ t : State, t.heap = H → s.WarmedH t.vm → Qc args s (.returned (some (.int r))) t) : ∀ (n : Nat), ∀ (x2 : Int32) (x3 : Int32) (x4 : Int32) (th : Int32) (wd : Int32) (ct : Nat → Int64) (bf : Nat → Int64) (sg : Nat → Int64) (my : Nat → Int32) (H : Heap) (locs : List Loc), va_P (dC, dI) vwCl (wX1 ad cA nW nH th fn wd dk mn cs nx gs pr ln wy ct bf sg my) H → va_D A (wX1 ad cA nW nH th fn wd dk mn cs nx gs pr ln wy ct bf sg my) → va_S A s.heap H locs → ∀ (ls : Array Slot), lv_has ls 7 [(0, .ref (ad 0)), (1, .int a1), (2, .int x2), (3, .int x3), (4, .int x4)] → lX1_plain_44 nW nH dk a1 Post n x2 x3 x4 th wd ct bf sg my → W p l e ({ frames := 6, cells := 0, slots := 0, locals := 133 } : Room) s m args below meth c H locs 0 0 (MQ below Qc args s 0 0 A) (F0 m 44 ls []) := by
  have hC0 := hC
  obtain ⟨hx, hb, hr, hml, hown, hts, hlocks⟩ := hC
  intro n
  induction n with
  | zero =>
    intro x2 x3 x4 th wd ct bf sg my H locs hP hD hS ls hl h
    exact h.elim
  | succ n hr44 =>
    intro x2 x3 x4 th wd ct bf sg my H locs hP hD hS ls hl h
    have h : bX1_plain_44 nW nH dk a1 Post (lX1_plain_44 nW nH dk a1 Post n) x2 x3 x4 th wd ct bf sg my := h
    unfold bX1_plain_44 at h
    refine lv_iload hx hb dX1_plain_44 (lv_at hl 4 rfl) ?_
    refine lv_bipush (v := 61) hx hb dX1_plain_46 (by decide) ?_
    refine lv_icmp_ge (tgt := 75) hx hb dX1_plain_48 (by decide) (fun c => ?_) (fun c => ?_)
    · have h := h.1 c
      refine lv_iconst (v := 0) hx hb dX1_plain_75 (by decide) ?_
      refine lv_istore (lv' := [(4, .int 0), (0, .ref (ad 0)), (1, .int a1), (2, .int x2), (3, .int x3)]) hx hb dX1_plain_76 hl (by decide) rfl (fun ls hl => ?_)
      obtain ⟨n_32, h⟩ := h
      exact tX1_plain_78 hC0 hK hA hQ n_32 _ _ _ _ _ _ _ _ _ _ _ hP hD hS ls (lv_sub hl [1, 2, 3, 4, 0] rfl) h
    · have h := h.2 c
      refine lv_aload_n hx hb dX1_plain_51 rfl (lv_at hl 0 rfl) ?_
      refine va_get (D := (dC, dI)) (ci := 2) (v := .ref (ad 10)) (C := RX1) (T := TX1) (N := 17) hx hb hts in_X1_plain hown hK hP 0 rfl rfl 13 (by decide) (hts (.fieldLink RX1 39 "SignCutterModel" "before" "[J") (by decide +kernel)) (fun _ h9 => h9) rfl dX1_plain_52 ?_
      refine lv_iload hx hb dX1_plain_55 (lv_at hl 4 rfl) ?_
      refine lv_iload hx hb dX1_plain_57 (lv_at hl 4 rfl) ?_
      refine lv_iload_n hx hb dX1_plain_59 rfl (lv_at hl 2 rfl) ?_
      refine lv_icmp_ne (tgt := 67) hx hb dX1_plain_60 (by decide) (fun c => ?_) (fun c => ?_)
      · have h := h.2 c
        refine lv_lconst (v := 0) hx hb dX1_plain_67 (by decide) ?_
        refine z_last hx hb hK hP hD hS 10 9 rfl rfl h dX1_plain_68 (fun j_33 H locs h hP hD hS => ?_)
        have hP : va_P (dC, dI) vwCl (wX1 ad cA nW nH th fn wd dk mn cs nx gs pr ln wy ct (vp_updL bf j_33 0) sg my) H := hP
        have hD : va_D A (wX1 ad cA nW nH th fn wd dk mn cs nx gs pr ln wy ct (vp_updL bf j_33 0) sg my) := hD
        refine lv_iinc (v := (x4 + 1)) (lv' := [(4, .int (x4 + 1)), (0, .ref (ad 0)), (1, .int a1), (2, .int x2), (3, .int x3)]) hx hb dX1_plain_69 hl (k := 4) rfl rfl (by decide) rfl (fun ls hl => ?_)
        refine lv_goto (tgt := 44) hx hb dX1_plain_72 (by decide) ?_
        exact hr44 _ _ _ _ _ _ _ _ _ _ _ hP hD hS ls (lv_sub hl [1, 2, 3, 4, 0] rfl) h
      · have h := h.1 c
        refine lv_lconst (v := 1) hx hb dX1_plain_63 (by decide) ?_
        refine lv_goto (tgt := 68) hx hb dX1_plain_64 (by decide) ?_
        refine z_last hx hb hK hP hD hS 10 9 rfl rfl h dX1_plain_68 (fun j_34 H locs h hP hD hS => ?_)
        have hP : va_P (dC, dI) vwCl (wX1 ad cA nW nH th fn wd dk mn cs nx gs pr ln wy ct (vp_updL bf j_34 1) sg my) H := hP
        have hD : va_D A (wX1 ad cA nW nH th fn wd dk mn cs nx gs pr ln wy ct (vp_updL bf j_34 1) sg my) := hD
        refine lv_iinc (v := (x4 + 1)) (lv' := [(4, .int (x4 + 1)), (0, .ref (ad 0)), (1, .int a1), (2, .int x2), (3, .int x3)]) hx hb dX1_plain_69 hl (k := 4) rfl rfl (by decide) rfl (fun ls hl => ?_)
        refine lv_goto (tgt := 44) hx hb dX1_plain_72 (by decide) ?_
        exact hr44 _ _ _ _ _ _ _ _ _ _ _ hP hD hS ls (lv_sub hl [1, 2, 3, 4, 0] rfl) h
set_option maxHeartbeats 4000000 in
set_option maxRecDepth 100000 in
theorem mX1_plain (l : Launch) {dC : Nat → ClassId} {dI : Nat → Nat → Nat} {ad : Nat → Nat} {cA : Nat → ClassId} {nW : Nat} {nH : Nat} {th : Int32} {fn : Int32} {wd : Int32} {dk : Nat → Int32} {mn : Nat → Int32} {cs : Nat → Int64} {nx : Nat → Int32} {gs : Nat → Int32} {pr : Nat → Int64} {ln : Nat → Int32} {wy : Nat → Int32} {ct : Nat → Int64} {bf : Nat → Int64} {sg : Nat → Int64} {my : Nat → Int32} {sz : Nat} {a1 : Int32} {Post : Int32 → (Int32) → (Int32) → (Nat → Int64) → (Nat → Int64) → (Nat → Int64) → (Nat → Int32) → Prop} (h : wX1_plain nW nH dk th wd ct bf sg my a1 Post) : Met l yX1_plain wsX1_plain ({ frames := 6, cells := 0, slots := 0, locals := 133 } : Room) (zPw (dC, dI) vwCl (tX1 cA) (wX1 ad cA nW nH th fn wd dk mn cs nx gs pr ln wy ct bf sg my) sz [.ref (ad 0), .int a1]) (va_Qi (S := (Int32) × (Int32) × (Nat → Int64) × (Nat → Int64) × (Nat → Int64) × (Nat → Int32)) (fun (r : Int32) (u : (Int32) × (Int32) × (Nat → Int64) × (Nat → Int64) × (Nat → Int64) × (Nat → Int32)) => Post r u.1 u.2.1 u.2.2.1 u.2.2.2.1 u.2.2.2.2.1 u.2.2.2.2.2) (zB (dC, dI) vwCl (tX1 cA) (wX1 ad cA nW nH th fn wd dk mn cs nx gs pr ln wy ct bf sg my) sz (fun u : (Int32) × (Int32) × (Nat → Int64) × (Nat → Int64) × (Nat → Int64) × (Nat → Int32) => wX1 ad cA nW nH u.1 fn u.2.1 dk mn cs nx gs pr ln wy u.2.2.1 u.2.2.2.1 u.2.2.2.2.1 u.2.2.2.2.2)) (va_A (wX1 ad cA nW nH th fn wd dk mn cs nx gs pr ln wy ct bf sg my) sz)) 0 0 (va_A (wX1 ad cA nW nH th fn wd dk mn cs nx gs pr ln wy ct bf sg my) sz) := by
  refine Met.ofW (cc := cX1_plain) (maxL := 7) (ret := (some .int)) (by decide) rfl ?_
  intro p e s m args below meth c s₁ B hml hv
  obtain ⟨rfl, hsz, hP, hK, hD0⟩ := hv
  have hC : zC p s m [.ref (ad 0), .int a1].toArray meth c cX1_plain wsX1_plain (some .int) 7 RX1 := ⟨B.exec, B.bytes, B.returns, hml, findClass_of_methodNamed B.named, atoms_spec (ws := wsX1_plain) B.pre, B.notSynchronized⟩
  have hC0 := hC
  obtain ⟨hx, hb, hr, hml, hown, hts, hlocks⟩ := hC
  subst hsz
  have hD := hD0.self (sz := s.heap.size)
  have hA : ∀ q : Nat, s.heap.size ≤ q → va_A (wX1 ad cA nW nH th fn wd dk mn cs nx gs pr ln wy ct bf sg my) s.heap.size q := fun q h => Or.inr h
  have hS : va_S (va_A (wX1 ad cA nW nH th fn wd dk mn cs nx gs pr ln wy ct bf sg my) s.heap.size) s.heap s.heap [] := va_S.rf
  generalize hQe : (va_Qi (S := (Int32) × (Int32) × (Nat → Int64) × (Nat → Int64) × (Nat → Int64) × (Nat → Int32)) (fun (r : Int32) (u : (Int32) × (Int32) × (Nat → Int64) × (Nat → Int64) × (Nat → Int64) × (Nat → Int32)) => Post r u.1 u.2.1 u.2.2.1 u.2.2.2.1 u.2.2.2.2.1 u.2.2.2.2.2) (zB (dC, dI) vwCl (tX1 cA) (wX1 ad cA nW nH th fn wd dk mn cs nx gs pr ln wy ct bf sg my) s.heap.size (fun u : (Int32) × (Int32) × (Nat → Int64) × (Nat → Int64) × (Nat → Int64) × (Nat → Int32) => wX1 ad cA nW nH u.1 fn u.2.1 dk mn cs nx gs pr ln wy u.2.2.1 u.2.2.2.1 u.2.2.2.2.1 u.2.2.2.2.2)) (va_A (wX1 ad cA nW nH th fn wd dk mn cs nx gs pr ln wy ct bf sg my) s.heap.size)) = Qc
  generalize hAe : va_A (wX1 ad cA nW nH th fn wd dk mn cs nx gs pr ln wy ct bf sg my) s.heap.size = A at hD hA hS hQe ⊢
  have hQ : ∀ (r : Int32) (th : Int32) (wd : Int32) (ct : Nat → Int64) (bf : Nat → Int64) (sg : Nat → Int64) (my : Nat → Int32) (H : Heap) (locs : List Loc), va_P (dC, dI) vwCl (wX1 ad cA nW nH th fn wd dk mn cs nx gs pr ln wy ct bf sg my) H → va_D A (wX1 ad cA nW nH th fn wd dk mn cs nx gs pr ln wy ct bf sg my) → va_S A s.heap H locs → Post r th wd ct bf sg my → ∀ t : State, t.heap = H → s.WarmedH t.vm → Qc [.ref (ad 0), .int a1].toArray s (.returned (some (.int r))) t := by
    intro r th wd ct bf sg my H locs hP hD hS h t ht hW
    rw [← hQe]
    exact ⟨⟨r, (th, wd, ct, bf, sg, my), rfl, h, by rw [ht]; exact hP, va_K.moved hW.alike hK, hAe ▸ hD⟩, hS.F ht⟩
  clear hQe hAe
  have hl := lv_entry ([.ref (ad 0), .int a1]) (n := 7) (Nat.le_of_ble_eq_true rfl)
  rw [lg_entry_eq]
  generalize (lg_sl ([.ref (ad 0), .int a1]) ++ List.replicate (7 - (lg_sl ([.ref (ad 0), .int a1])).length) Slot.unset).toArray = ls at hl ⊢
  have hl : lv_has ls 7 [(0, .ref (ad 0)), (1, .int a1)] := hl
  show W p l e ({ frames := 6, cells := 0, slots := 0, locals := 133 } : Room) s m _ below meth c s.heap [] 0 0 (MQ below Qc _ s 0 0 A) (F0 m 0 ls [])
  unfold wX1_plain at h
  refine lv_aload_n hx hb dX1_plain_0 rfl (lv_at hl 0 rfl) ?_
  refine lv_iconst (v := 0) hx hb dX1_plain_1 (by decide) ?_
  refine va_put (D := (dC, dI)) (ci := 2) (v := .int 0) (ty := .int) (C := RX1) (T := TX1) (N := 17) hx hb hts in_X1_plain tyX1 tyX1_ok nmX1 hown hK hP hD hS 0 rfl rfl 0 (by decide) (hts (.fieldLink RX1 55 "SignCutterModel" "thrown" "I") (by decide +kernel)) (fun _ h9 => h9) rfl (by decide +kernel) rfl rfl (Nat.le_of_ble_eq_true rfl) dX1_plain_2 (fun H locs hP hD hS => ?_)
  have hP : va_P (dC, dI) vwCl (wX1 ad cA nW nH 0 fn wd dk mn cs nx gs pr ln wy ct bf sg my) H := hP
  have hD : va_D A (wX1 ad cA nW nH 0 fn wd dk mn cs nx gs pr ln wy ct bf sg my) := hD
  refine lv_aload_n hx hb dX1_plain_5 rfl (lv_at hl 0 rfl) ?_
  refine z_cVi (ci := 2) (As := []) (rest := []) ⟨hx, hb, hml, hown, hts⟩ (mX1_mostInRow l h) (cwV 0 hts gX1_plain_X1_mostInRow rfl rfl rfl (by decide +kernel) ⟨Nat.le_of_ble_eq_true rfl, Nat.le_of_ble_eq_true rfl⟩) hK hP 0 rfl rfl rfl rfl hl.1 rfl (Nat.le_of_ble_eq_true rfl) dX1_plain_6 ⟨Nat.le_of_ble_eq_true rfl, Nat.le_of_ble_eq_true rfl⟩ (fun r_1 h => ?_)
  refine lv_if_eq (tgt := 23) hx hb dX1_plain_9 (by decide) (fun c => ?_) (fun c => ?_)
  · have h := h.1 c
    refine lv_iconst (v := 0) hx hb dX1_plain_23 (by decide) ?_
    exact W.iret (v := 0) hx hb hr (hQ _ _ _ _ _ _ _ _ _ hP hD hS h) hS.2.2 dX1_plain_24
  · have h := h.2 c
    refine lv_iload_n hx hb dX1_plain_12 rfl (lv_at hl 1 rfl) ?_
    refine lv_iconst (v := 1) hx hb dX1_plain_13 (by decide) ?_
    refine lv_icmp_lt (tgt := 23) hx hb dX1_plain_14 (by decide) (fun c => ?_) (fun c => ?_)
    · have h := h.1 c
      refine lv_iconst (v := 0) hx hb dX1_plain_23 (by decide) ?_
      exact W.iret (v := 0) hx hb hr (hQ _ _ _ _ _ _ _ _ _ hP hD hS h) hS.2.2 dX1_plain_24
    · have h := h.2 c
      refine lv_iload_n hx hb dX1_plain_17 rfl (lv_at hl 1 rfl) ?_
      refine lv_bipush (v := 60) hx hb dX1_plain_18 (by decide) ?_
      refine lv_icmp_le (tgt := 25) hx hb dX1_plain_20 (by decide) (fun c => ?_) (fun c => ?_)
      · have h := h.1 c
        refine lv_aload_n hx hb dX1_plain_25 rfl (lv_at hl 0 rfl) ?_
        refine z_cVi (ci := 2) (As := []) (rest := []) ⟨hx, hb, hml, hown, hts⟩ (mX1_from l h) (cwV 0 hts gX1_plain_X1_from rfl rfl rfl (by decide +kernel) ⟨Nat.le_of_ble_eq_true rfl, Nat.le_of_ble_eq_true rfl⟩) hK hP 0 rfl rfl rfl rfl hl.1 rfl (Nat.le_of_ble_eq_true rfl) dX1_plain_26 ⟨Nat.le_of_ble_eq_true rfl, Nat.le_of_ble_eq_true rfl⟩ (fun r_2 h => ?_)
        refine lv_istore_n (lv' := [(2, .int r_2), (0, .ref (ad 0)), (1, .int a1)]) hx hb dX1_plain_29 rfl hl (by decide) rfl (fun ls hl => ?_)
        refine lv_aload_n hx hb dX1_plain_30 rfl (lv_at hl 1 rfl) ?_
        refine z_cVi (ci := 2) (As := []) (rest := []) ⟨hx, hb, hml, hown, hts⟩ (mX1_until l h) (cwV 0 hts gX1_plain_X1_until rfl rfl rfl (by decide +kernel) ⟨Nat.le_of_ble_eq_true rfl, Nat.le_of_ble_eq_true rfl⟩) hK hP 0 rfl rfl rfl rfl hl.1 rfl (Nat.le_of_ble_eq_true rfl) dX1_plain_31 ⟨Nat.le_of_ble_eq_true rfl, Nat.le_of_ble_eq_true rfl⟩ (fun r_3 h => ?_)
        refine lv_istore_n (lv' := [(3, .int r_3), (2, .int r_2), (0, .ref (ad 0)), (1, .int a1)]) hx hb dX1_plain_34 rfl hl (by decide) rfl (fun ls hl => ?_)
        refine lv_aload_n hx hb dX1_plain_35 rfl (lv_at hl 2 rfl) ?_
        refine lv_iload_n hx hb dX1_plain_36 rfl (lv_at hl 1 rfl) ?_
        refine lv_iload_n hx hb dX1_plain_37 rfl (lv_at hl 0 rfl) ?_
        refine z_cVv (ci := 2) (As := [.int r_2, .int r_3]) (rest := []) ⟨hx, hb, hml, hown, hts⟩ (mX1_look l h) (cwV 2 hts gX1_plain_X1_look rfl rfl rfl (by decide +kernel) ⟨Nat.le_of_ble_eq_true rfl, Nat.le_of_ble_eq_true rfl⟩) hK hP hD hS hA 0 rfl rfl rfl rfl hl.1 rfl (Nat.le_of_ble_eq_true rfl) dX1_plain_38 ⟨Nat.le_of_ble_eq_true rfl, Nat.le_of_ble_eq_true rfl⟩ (fun u_4 H locs h hP hD hS => ?_)
        revert h hP hD
        generalize u_4.1 = wd_6
        generalize u_4.2.1 = sg_7
        generalize u_4.2.2 = my_8
        intro h hP hD
        have hP : va_P (dC, dI) vwCl (wX1 ad cA nW nH 0 fn wd_6 dk mn cs nx gs pr ln wy ct bf sg_7 my_8) H := hP
        have hD : va_D A (wX1 ad cA nW nH 0 fn wd_6 dk mn cs nx gs pr ln wy ct bf sg_7 my_8) := hD
        refine lv_iconst (v := 0) hx hb dX1_plain_41 (by decide) ?_
        refine lv_istore (lv' := [(4, .int 0), (3, .int r_3), (2, .int r_2), (0, .ref (ad 0)), (1, .int a1)]) hx hb dX1_plain_42 hl (by decide) rfl (fun ls hl => ?_)
        obtain ⟨n_35, h⟩ := h
        exact tX1_plain_44 hC0 hK hA hQ n_35 _ _ _ _ _ _ _ _ _ _ _ hP hD hS ls (lv_sub hl [3, 4, 2, 1, 0] rfl) h
      · have h := h.2 c
        refine lv_iconst (v := 0) hx hb dX1_plain_23 (by decide) ?_
        exact W.iret (v := 0) hx hb hr (hQ _ _ _ _ _ _ _ _ _ hP hD hS h) hS.2.2 dX1_plain_24
