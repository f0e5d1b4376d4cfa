/-! ===== PRINTED BY wip/gen/ctor.py: a new object of the class ===== -/
theorem in_X0_init : ∀ w ∈ wsX00, w ∈ wsX0_init := by decide +kernel
def rmI_X0 : Room := { frames := 1, cells := 7, slots := 5163, locals := 24 }
set_option maxHeartbeats 4000000 in
set_option maxRecDepth 100000 in
theorem mX0_init (l : Launch) {dC : Nat → ClassId} {dI : Nat → Nat → Nat} {h0 sz nW nH : Nat} {w h : Int32} (e1 : zMax 1 (zMin 60 w) = nI nW) (e2 : zMax 1 (zMin 40 h) = nI nH) (hs : szs nW nH) : Met l yX0_init wsX0_init rmI_X0 (zPw (dC, dI) vwCl [] ([(h0, .inr (1, [.int 0, .int 0, .null, .null, .null, .null, .null, .int 0, .int 0, .null, .null]))]) sz [.ref h0, .int w, .int h]) (va_Qv (S := (Nat → Nat) × (Nat → ClassId)) (fun u => u.1 0 = h0) (fun u t => va_P (dC, dI) vwCl (wX0 u.1 u.2 nW nH 0 0 (fun _ => 0) (fun _ => 0) (fun _ => 0) (fun _ => 0) (fun _ => 0) (fun _ => 0) (fun _ => 0)) t.heap ∧ va_K (dC, dI) vwCl (tX0 u.2) t ∧ va_D (va_A ([(h0, .inr (1, [.int 0, .int 0, .null, .null, .null, .null, .null, .int 0, .int 0, .null, .null]))]) sz) (wX0 u.1 u.2 nW nH 0 0 (fun _ => 0) (fun _ => 0) (fun _ => 0) (fun _ => 0) (fun _ => 0) (fun _ => 0) (fun _ => 0))) (va_A ([(h0, .inr (1, [.int 0, .int 0, .null, .null, .null, .null, .null, .int 0, .int 0, .null, .null]))]) sz)) 7 5163 (va_A ([(h0, .inr (1, [.int 0, .int 0, .null, .null, .null, .null, .null, .int 0, .int 0, .null, .null]))]) sz) := by
  refine Met.ofW (cc := cX0_init) (maxL := 4) (ret := none) (by decide) rfl ?_
  intro p e s m args below meth c s₁ B hml hv
  obtain ⟨rfl, hsz, hP, hK, hD0⟩ := hv
  have hx := B.exec
  have hb := B.bytes
  have hr := B.returns
  have hts := atoms_spec (ws := wsX0_init) B.pre
  have hown : s.vm.findClass RX0 = some m.cls := findClass_of_methodNamed B.named
  have hlocks := B.notSynchronized
  have hin : meth.name = "<init>" := (name_of_methodNamed B.named B.method).1
  obtain ⟨s1, s2, s3, s4⟩ := hs
  subst hsz
  have hD := hD0.self (sz := s.heap.size)
  generalize hAe : va_A ([(h0, .inr (1, [.int 0, .int 0, .null, .null, .null, .null, .null, .int 0, .int 0, .null, .null]))]) s.heap.size = A at hD ⊢
  have hA : ∀ q : Nat, s.heap.size ≤ q → A q := fun q h => by rw [← hAe]; exact Or.inr h
  have hS : va_S A s.heap s.heap [] := va_S.rf
  have hl := lv_entry ([.ref h0, .int w, .int h]) (n := 4) (Nat.le_of_ble_eq_true rfl)
  rw [lg_entry_eq]
  generalize (lg_sl ([.ref h0, .int w, .int h]) ++ List.replicate (4 - (lg_sl ([.ref h0, .int w, .int h])).length) Slot.unset).toArray = ls at hl ⊢
  have hl : lv_has ls 4 [(0, .ref h0), (1, .int w), (2, .int h)] := hl
  refine lv_aload_n hx hb dX0_init_0 rfl (lv_at hl 0 rfl) ?_
  refine W.objInit hx hb hown (hts (.methodLink RX0 1 objectInit) (by decide +kernel)) (hts (.instanceMethod objectInit) (by decide +kernel)) (hts (.code objectInit ⟨#[0xb1]⟩ 1 none) (by decide +kernel)) rfl (by rw [hml]; exact hl.1) rfl dX0_init_1 (Nat.le_of_ble_eq_true rfl) (Nat.le_of_ble_eq_true rfl) ?_
  refine W.eq (g2 := F0 m 4 ls []) rfl ?_
  refine lv_aload_n hx hb dX0_init_4 rfl (lv_at hl 0 rfl) ?_
  refine lv_iconst (v := 1) hx hb dX0_init_5 (by decide) ?_
  refine lv_bipush (v := 60) hx hb dX0_init_6 (by decide) ?_
  refine lv_iload_n hx hb dX0_init_8 rfl (lv_at hl 1 rfl) ?_
  refine va_mmin hx hb (hml.trans hl.1.symm) hown (hts (.methodLink RX0 9 Lib.Math.min.name) (by decide +kernel)) (hts (.static Lib.Math.min.name) (by decide +kernel)) (hts (.initialized "java/lang/Math") (by decide +kernel)) (hts (.code Lib.Math.min.name Lib.Math.min.code 2 (some .int)) (by decide +kernel)) (Nat.le_of_ble_eq_true rfl) (Nat.le_of_ble_eq_true rfl) (Nat.le_of_ble_eq_true rfl) (Nat.le_of_ble_eq_true rfl) dX0_init_9 ?_
  refine W.eq (g2 := F0 m 12 ls [.int (zMin 60 w), .int 1, .ref h0]) rfl ?_
  refine va_mmax hx hb (hml.trans hl.1.symm) hown (hts (.methodLink RX0 15 Lib.Math.max.name) (by decide +kernel)) (hts (.static Lib.Math.max.name) (by decide +kernel)) (hts (.initialized "java/lang/Math") (by decide +kernel)) (hts (.code Lib.Math.max.name Lib.Math.max.code 2 (some .int)) (by decide +kernel)) (Nat.le_of_ble_eq_true rfl) (Nat.le_of_ble_eq_true rfl) (Nat.le_of_ble_eq_true rfl) (Nat.le_of_ble_eq_true rfl) dX0_init_12 ?_
  refine W.eq (g2 := F0 m 15 ls [.int (zMax 1 (zMin 60 w)), .ref h0]) rfl ?_
  rw [e1]
  refine va_putF (D := (dC, dI)) (ci := 1) (v := .int (nI nW)) (ty := .int) (C := RX0) (T := TX0) (N := 11) hx hb hts in_X0_init tyX0 tyX0_ok nmX0 hown hK hP hD hS 0 rfl rfl 0 (by decide) (hts (.fieldLink RX0 18 "SignCutter" "width" "I") (by decide +kernel)) (fun _ h9 => h9) rfl hin rfl (by decide +kernel) rfl rfl (Nat.le_of_ble_eq_true rfl) dX0_init_15 (fun H locs hP hD hS => ?_)
  have hP : va_P (dC, dI) vwCl ([(h0, .inr (1, [.int (nI nW), .int 0, .null, .null, .null, .null, .null, .int 0, .int 0, .null, .null]))]) H := hP
  have hD : va_D A ([(h0, .inr (1, [.int (nI nW), .int 0, .null, .null, .null, .null, .null, .int 0, .int 0, .null, .null]))]) := hD
  refine lv_aload_n hx hb dX0_init_18 rfl (lv_at hl 0 rfl) ?_
  refine lv_iconst (v := 1) hx hb dX0_init_19 (by decide) ?_
  refine lv_bipush (v := 40) hx hb dX0_init_20 (by decide) ?_
  refine lv_iload_n hx hb dX0_init_22 rfl (lv_at hl 2 rfl) ?_
  refine va_mmin hx hb (hml.trans hl.1.symm) hown (hts (.methodLink RX0 9 Lib.Math.min.name) (by decide +kernel)) (hts (.static Lib.Math.min.name) (by decide +kernel)) (hts (.initialized "java/lang/Math") (by decide +kernel)) (hts (.code Lib.Math.min.name Lib.Math.min.code 2 (some .int)) (by decide +kernel)) (Nat.le_of_ble_eq_true rfl) (Nat.le_of_ble_eq_true rfl) (Nat.le_of_ble_eq_true rfl) (Nat.le_of_ble_eq_true rfl) dX0_init_23 ?_
  refine W.eq (g2 := F0 m 26 ls [.int (zMin 40 h), .int 1, .ref h0]) rfl ?_
  refine va_mmax hx hb (hml.trans hl.1.symm) hown (hts (.methodLink RX0 15 Lib.Math.max.name) (by decide +kernel)) (hts (.static Lib.Math.max.name) (by decide +kernel)) (hts (.initialized "java/lang/Math") (by decide +kernel)) (hts (.code Lib.Math.max.name Lib.Math.max.code 2 (some .int)) (by decide +kernel)) (Nat.le_of_ble_eq_true rfl) (Nat.le_of_ble_eq_true rfl) (Nat.le_of_ble_eq_true rfl) (Nat.le_of_ble_eq_true rfl) dX0_init_26 ?_
  refine W.eq (g2 := F0 m 29 ls [.int (zMax 1 (zMin 40 h)), .ref h0]) rfl ?_
  rw [e2]
  refine va_putF (D := (dC, dI)) (ci := 1) (v := .int (nI nH)) (ty := .int) (C := RX0) (T := TX0) (N := 11) hx hb hts in_X0_init tyX0 tyX0_ok nmX0 hown hK hP hD hS 0 rfl rfl 1 (by decide) (hts (.fieldLink RX0 22 "SignCutter" "height" "I") (by decide +kernel)) (fun _ h9 => h9) rfl hin rfl (by decide +kernel) rfl rfl (Nat.le_of_ble_eq_true rfl) dX0_init_29 (fun H locs hP hD hS => ?_)
  have hP : va_P (dC, dI) vwCl ([(h0, .inr (1, [.int (nI nW), .int (nI nH), .null, .null, .null, .null, .null, .int 0, .int 0, .null, .null]))]) H := hP
  have hD : va_D A ([(h0, .inr (1, [.int (nI nW), .int (nI nH), .null, .null, .null, .null, .null, .int 0, .int 0, .null, .null]))]) := hD
  refine lv_aload_n hx hb dX0_init_32 rfl (lv_at hl 0 rfl) ?_
  refine va_get (D := (dC, dI)) (ci := 1) (v := .int (nI nW)) (C := RX0) (T := TX0) (N := 11) hx hb hts in_X0_init hown hK hP 0 rfl rfl 0 (by decide) (hts (.fieldLink RX0 18 "SignCutter" "width" "I") (by decide +kernel)) (fun _ h9 => h9) rfl dX0_init_33 ?_
  refine lv_iconst (v := 1) hx hb dX0_init_36 (by decide) ?_
  refine lv_iadd hx hb dX0_init_37 ?_
  rw [nI_1]
  refine lv_istore_n (lv' := [(3, .int (nI (nW + 1))), (0, .ref h0), (1, .int w), (2, .int h)]) hx hb dX0_init_38 rfl hl (by decide) rfl (fun ls hl => ?_)
  refine lv_aload_n hx hb dX0_init_39 rfl (lv_at hl 1 rfl) ?_
  refine lv_aload_n hx hb dX0_init_40 rfl (lv_at hl 1 rfl) ?_
  refine va_get (D := (dC, dI)) (ci := 1) (v := .int (nI nW)) (C := RX0) (T := TX0) (N := 11) hx hb hts in_X0_init hown hK hP 0 rfl rfl 0 (by decide) (hts (.fieldLink RX0 18 "SignCutter" "width" "I") (by decide +kernel)) (fun _ h9 => h9) rfl dX0_init_41 ?_
  refine va_newa (atype := .long) (ty := .long) (a0 := (nW, .inr (.inl (fun _ => 0)))) (N' := nW) hx hb (hts (.arrayClass .long) (by decide +kernel)) rfl hK hP hD hS hA (fun _ => rfl) (nI_pos (by omega)) (nI_clamp (by omega)) (by show nW * 8 ≤ 536870912; omega) (by show 0 + 1 ≤ 7; omega) (by show 0 + nW ≤ 5163; omega) dX0_init_44 (fun q1 c1 H hK hP hD hS => ?_)
  have hP : va_P (dC, dI) vwCl ([(h0, .inr (1, [.int (nI nW), .int (nI nH), .null, .null, .null, .null, .null, .int 0, .int 0, .null, .null])), (q1, .inl (c1, nW, .inr (.inl (fun _ => 0))))]) H := hP
  have hD : va_D A ([(h0, .inr (1, [.int (nI nW), .int (nI nH), .null, .null, .null, .null, .null, .int 0, .int 0, .null, .null])), (q1, .inl (c1, nW, .inr (.inl (fun _ => 0))))]) := hD
  have hK : va_K (dC, dI) vwCl [(c1, .long)] s := hK
  refine va_putF (D := (dC, dI)) (ci := 1) (v := .ref q1) (ty := .array .long) (C := RX0) (T := TX0) (N := 11) hx hb hts in_X0_init tyX0 tyX0_ok nmX0 hown hK hP hD hS 0 rfl rfl 2 (by decide) (hts (.fieldLink RX0 25 "SignCutter" "columns" "[J") (by decide +kernel)) (fun _ h9 => h9) rfl hin rfl (by decide +kernel) rfl rfl (Nat.le_of_ble_eq_true rfl) dX0_init_46 (fun H locs hP hD hS => ?_)
  have hP : va_P (dC, dI) vwCl ([(h0, .inr (1, [.int (nI nW), .int (nI nH), .ref q1, .null, .null, .null, .null, .int 0, .int 0, .null, .null])), (q1, .inl (c1, nW, .inr (.inl (fun _ => 0))))]) H := hP
  have hD : va_D A ([(h0, .inr (1, [.int (nI nW), .int (nI nH), .ref q1, .null, .null, .null, .null, .int 0, .int 0, .null, .null])), (q1, .inl (c1, nW, .inr (.inl (fun _ => 0))))]) := hD
  refine lv_aload_n hx hb dX0_init_49 rfl (lv_at hl 1 rfl) ?_
  refine lv_aload_n hx hb dX0_init_50 rfl (lv_at hl 1 rfl) ?_
  refine va_get (D := (dC, dI)) (ci := 1) (v := .int (nI nH)) (C := RX0) (T := TX0) (N := 11) hx hb hts in_X0_init hown hK hP 0 rfl rfl 1 (by decide) (hts (.fieldLink RX0 22 "SignCutter" "height" "I") (by decide +kernel)) (fun _ h9 => h9) rfl dX0_init_51 ?_
  refine va_newa (atype := .long) (ty := .long) (a0 := (nH, .inr (.inl (fun _ => 0)))) (N' := nH) hx hb (hts (.arrayClass .long) (by decide +kernel)) rfl hK hP hD hS hA (fun _ => rfl) (nI_pos (by omega)) (nI_clamp (by omega)) (by show nH * 8 ≤ 536870912; omega) (by show 0 + 1 + 1 ≤ 7; omega) (by show 0 + nW + nH ≤ 5163; omega) dX0_init_54 (fun q2 c2 H hK hP hD hS => ?_)
  have hP : va_P (dC, dI) vwCl ([(h0, .inr (1, [.int (nI nW), .int (nI nH), .ref q1, .null, .null, .null, .null, .int 0, .int 0, .null, .null])), (q1, .inl (c1, nW, .inr (.inl (fun _ => 0)))), (q2, .inl (c2, nH, .inr (.inl (fun _ => 0))))]) H := hP
  have hD : va_D A ([(h0, .inr (1, [.int (nI nW), .int (nI nH), .ref q1, .null, .null, .null, .null, .int 0, .int 0, .null, .null])), (q1, .inl (c1, nW, .inr (.inl (fun _ => 0)))), (q2, .inl (c2, nH, .inr (.inl (fun _ => 0))))]) := hD
  have hK : va_K (dC, dI) vwCl [(c1, .long), (c2, .long)] s := hK
  refine va_putF (D := (dC, dI)) (ci := 1) (v := .ref q2) (ty := .array .long) (C := RX0) (T := TX0) (N := 11) hx hb hts in_X0_init tyX0 tyX0_ok nmX0 hown hK hP hD hS 0 rfl rfl 3 (by decide) (hts (.fieldLink RX0 29 "SignCutter" "rows" "[J") (by decide +kernel)) (fun _ h9 => h9) rfl hin rfl (by decide +kernel) rfl rfl (Nat.le_of_ble_eq_true rfl) dX0_init_56 (fun H locs hP hD hS => ?_)
  have hP : va_P (dC, dI) vwCl ([(h0, .inr (1, [.int (nI nW), .int (nI nH), .ref q1, .ref q2, .null, .null, .null, .int 0, .int 0, .null, .null])), (q1, .inl (c1, nW, .inr (.inl (fun _ => 0)))), (q2, .inl (c2, nH, .inr (.inl (fun _ => 0))))]) H := hP
  have hD : va_D A ([(h0, .inr (1, [.int (nI nW), .int (nI nH), .ref q1, .ref q2, .null, .null, .null, .int 0, .int 0, .null, .null])), (q1, .inl (c1, nW, .inr (.inl (fun _ => 0)))), (q2, .inl (c2, nH, .inr (.inl (fun _ => 0))))]) := hD
  refine lv_aload_n hx hb dX0_init_59 rfl (lv_at hl 1 rfl) ?_
  refine lv_iload_n hx hb dX0_init_60 rfl (lv_at hl 0 rfl) ?_
  refine lv_bipush (v := 40) hx hb dX0_init_61 (by decide) ?_
  refine lv_imul hx hb dX0_init_63 ?_
  rw [show (40 : Int32) = nI 40 from rfl, pk_mul]
  refine va_newa (atype := .long) (ty := .long) (a0 := (((nW + 1) * 40), .inr (.inl (fun _ => 0)))) (N' := ((nW + 1) * 40)) hx hb (hts (.arrayClass .long) (by decide +kernel)) rfl hK hP hD hS hA (fun _ => rfl) (nI_pos (by omega)) (nI_clamp (by omega)) (by show ((nW + 1) * 40) * 8 ≤ 536870912; omega) (by show 0 + 1 + 1 + 1 ≤ 7; omega) (by show 0 + nW + nH + ((nW + 1) * 40) ≤ 5163; omega) dX0_init_64 (fun q3 c3 H hK hP hD hS => ?_)
  have hP : va_P (dC, dI) vwCl ([(h0, .inr (1, [.int (nI nW), .int (nI nH), .ref q1, .ref q2, .null, .null, .null, .int 0, .int 0, .null, .null])), (q1, .inl (c1, nW, .inr (.inl (fun _ => 0)))), (q2, .inl (c2, nH, .inr (.inl (fun _ => 0)))), (q3, .inl (c3, ((nW + 1) * 40), .inr (.inl (fun _ => 0))))]) H := hP
  have hD : va_D A ([(h0, .inr (1, [.int (nI nW), .int (nI nH), .ref q1, .ref q2, .null, .null, .null, .int 0, .int 0, .null, .null])), (q1, .inl (c1, nW, .inr (.inl (fun _ => 0)))), (q2, .inl (c2, nH, .inr (.inl (fun _ => 0)))), (q3, .inl (c3, ((nW + 1) * 40), .inr (.inl (fun _ => 0))))]) := hD
  have hK : va_K (dC, dI) vwCl [(c1, .long), (c2, .long), (c3, .long)] s := hK
  refine va_putF (D := (dC, dI)) (ci := 1) (v := .ref q3) (ty := .array .long) (C := RX0) (T := TX0) (N := 11) hx hb hts in_X0_init tyX0 tyX0_ok nmX0 hown hK hP hD hS 0 rfl rfl 4 (by decide) (hts (.fieldLink RX0 32 "SignCutter" "ends" "[J") (by decide +kernel)) (fun _ h9 => h9) rfl hin rfl (by decide +kernel) rfl rfl (Nat.le_of_ble_eq_true rfl) dX0_init_66 (fun H locs hP hD hS => ?_)
  have hP : va_P (dC, dI) vwCl ([(h0, .inr (1, [.int (nI nW), .int (nI nH), .ref q1, .ref q2, .ref q3, .null, .null, .int 0, .int 0, .null, .null])), (q1, .inl (c1, nW, .inr (.inl (fun _ => 0)))), (q2, .inl (c2, nH, .inr (.inl (fun _ => 0)))), (q3, .inl (c3, ((nW + 1) * 40), .inr (.inl (fun _ => 0))))]) H := hP
  have hD : va_D A ([(h0, .inr (1, [.int (nI nW), .int (nI nH), .ref q1, .ref q2, .ref q3, .null, .null, .int 0, .int 0, .null, .null])), (q1, .inl (c1, nW, .inr (.inl (fun _ => 0)))), (q2, .inl (c2, nH, .inr (.inl (fun _ => 0)))), (q3, .inl (c3, ((nW + 1) * 40), .inr (.inl (fun _ => 0))))]) := hD
  refine lv_aload_n hx hb dX0_init_69 rfl (lv_at hl 1 rfl) ?_
  refine lv_iload_n hx hb dX0_init_70 rfl (lv_at hl 0 rfl) ?_
  refine lv_bipush (v := 40) hx hb dX0_init_71 (by decide) ?_
  refine lv_imul hx hb dX0_init_73 ?_
  rw [show (40 : Int32) = nI 40 from rfl, pk_mul]
  refine va_newa (atype := .int) (ty := .int) (a0 := (((nW + 1) * 40), .inl (fun _ => 0))) (N' := ((nW + 1) * 40)) hx hb (hts (.arrayClass .int) (by decide +kernel)) rfl hK hP hD hS hA (fun _ => rfl) (nI_pos (by omega)) (nI_clamp (by omega)) (by show ((nW + 1) * 40) * 4 ≤ 536870912; omega) (by show 0 + 1 + 1 + 1 + 1 ≤ 7; omega) (by show 0 + nW + nH + ((nW + 1) * 40) + ((nW + 1) * 40) ≤ 5163; omega) dX0_init_74 (fun q4 c4 H hK hP hD hS => ?_)
  have hP : va_P (dC, dI) vwCl ([(h0, .inr (1, [.int (nI nW), .int (nI nH), .ref q1, .ref q2, .ref q3, .null, .null, .int 0, .int 0, .null, .null])), (q1, .inl (c1, nW, .inr (.inl (fun _ => 0)))), (q2, .inl (c2, nH, .inr (.inl (fun _ => 0)))), (q3, .inl (c3, ((nW + 1) * 40), .inr (.inl (fun _ => 0)))), (q4, .inl (c4, ((nW + 1) * 40), .inl (fun _ => 0)))]) H := hP
  have hD : va_D A ([(h0, .inr (1, [.int (nI nW), .int (nI nH), .ref q1, .ref q2, .ref q3, .null, .null, .int 0, .int 0, .null, .null])), (q1, .inl (c1, nW, .inr (.inl (fun _ => 0)))), (q2, .inl (c2, nH, .inr (.inl (fun _ => 0)))), (q3, .inl (c3, ((nW + 1) * 40), .inr (.inl (fun _ => 0)))), (q4, .inl (c4, ((nW + 1) * 40), .inl (fun _ => 0)))]) := hD
  have hK : va_K (dC, dI) vwCl [(c1, .long), (c2, .long), (c3, .long), (c4, .int)] s := hK
  refine va_putF (D := (dC, dI)) (ci := 1) (v := .ref q4) (ty := .array .int) (C := RX0) (T := TX0) (N := 11) hx hb hts in_X0_init tyX0 tyX0_ok nmX0 hown hK hP hD hS 0 rfl rfl 5 (by decide) (hts (.fieldLink RX0 35 "SignCutter" "endCosts" "[I") (by decide +kernel)) (fun _ h9 => h9) rfl hin rfl (by decide +kernel) rfl rfl (Nat.le_of_ble_eq_true rfl) dX0_init_76 (fun H locs hP hD hS => ?_)
  have hP : va_P (dC, dI) vwCl ([(h0, .inr (1, [.int (nI nW), .int (nI nH), .ref q1, .ref q2, .ref q3, .ref q4, .null, .int 0, .int 0, .null, .null])), (q1, .inl (c1, nW, .inr (.inl (fun _ => 0)))), (q2, .inl (c2, nH, .inr (.inl (fun _ => 0)))), (q3, .inl (c3, ((nW + 1) * 40), .inr (.inl (fun _ => 0)))), (q4, .inl (c4, ((nW + 1) * 40), .inl (fun _ => 0)))]) H := hP
  have hD : va_D A ([(h0, .inr (1, [.int (nI nW), .int (nI nH), .ref q1, .ref q2, .ref q3, .ref q4, .null, .int 0, .int 0, .null, .null])), (q1, .inl (c1, nW, .inr (.inl (fun _ => 0)))), (q2, .inl (c2, nH, .inr (.inl (fun _ => 0)))), (q3, .inl (c3, ((nW + 1) * 40), .inr (.inl (fun _ => 0)))), (q4, .inl (c4, ((nW + 1) * 40), .inl (fun _ => 0)))]) := hD
  refine lv_aload_n hx hb dX0_init_79 rfl (lv_at hl 1 rfl) ?_
  refine lv_iload_n hx hb dX0_init_80 rfl (lv_at hl 0 rfl) ?_
  refine va_newa (atype := .int) (ty := .int) (a0 := ((nW + 1), .inl (fun _ => 0))) (N' := (nW + 1)) hx hb (hts (.arrayClass .int) (by decide +kernel)) rfl hK hP hD hS hA (fun _ => rfl) (nI_pos (by omega)) (nI_clamp (by omega)) (by show (nW + 1) * 4 ≤ 536870912; omega) (by show 0 + 1 + 1 + 1 + 1 + 1 ≤ 7; omega) (by show 0 + nW + nH + ((nW + 1) * 40) + ((nW + 1) * 40) + (nW + 1) ≤ 5163; omega) dX0_init_81 (fun q5 c5 H hK hP hD hS => ?_)
  have hP : va_P (dC, dI) vwCl ([(h0, .inr (1, [.int (nI nW), .int (nI nH), .ref q1, .ref q2, .ref q3, .ref q4, .null, .int 0, .int 0, .null, .null])), (q1, .inl (c1, nW, .inr (.inl (fun _ => 0)))), (q2, .inl (c2, nH, .inr (.inl (fun _ => 0)))), (q3, .inl (c3, ((nW + 1) * 40), .inr (.inl (fun _ => 0)))), (q4, .inl (c4, ((nW + 1) * 40), .inl (fun _ => 0))), (q5, .inl (c5, (nW + 1), .inl (fun _ => 0)))]) H := hP
  have hD : va_D A ([(h0, .inr (1, [.int (nI nW), .int (nI nH), .ref q1, .ref q2, .ref q3, .ref q4, .null, .int 0, .int 0, .null, .null])), (q1, .inl (c1, nW, .inr (.inl (fun _ => 0)))), (q2, .inl (c2, nH, .inr (.inl (fun _ => 0)))), (q3, .inl (c3, ((nW + 1) * 40), .inr (.inl (fun _ => 0)))), (q4, .inl (c4, ((nW + 1) * 40), .inl (fun _ => 0))), (q5, .inl (c5, (nW + 1), .inl (fun _ => 0)))]) := hD
  have hK : va_K (dC, dI) vwCl [(c1, .long), (c2, .long), (c3, .long), (c4, .int), (c5, .int)] s := hK
  refine va_putF (D := (dC, dI)) (ci := 1) (v := .ref q5) (ty := .array .int) (C := RX0) (T := TX0) (N := 11) hx hb hts in_X0_init tyX0 tyX0_ok nmX0 hown hK hP hD hS 0 rfl rfl 6 (by decide) (hts (.fieldLink RX0 39 "SignCutter" "endCounts" "[I") (by decide +kernel)) (fun _ h9 => h9) rfl hin rfl (by decide +kernel) rfl rfl (Nat.le_of_ble_eq_true rfl) dX0_init_83 (fun H locs hP hD hS => ?_)
  have hP : va_P (dC, dI) vwCl ([(h0, .inr (1, [.int (nI nW), .int (nI nH), .ref q1, .ref q2, .ref q3, .ref q4, .ref q5, .int 0, .int 0, .null, .null])), (q1, .inl (c1, nW, .inr (.inl (fun _ => 0)))), (q2, .inl (c2, nH, .inr (.inl (fun _ => 0)))), (q3, .inl (c3, ((nW + 1) * 40), .inr (.inl (fun _ => 0)))), (q4, .inl (c4, ((nW + 1) * 40), .inl (fun _ => 0))), (q5, .inl (c5, (nW + 1), .inl (fun _ => 0)))]) H := hP
  have hD : va_D A ([(h0, .inr (1, [.int (nI nW), .int (nI nH), .ref q1, .ref q2, .ref q3, .ref q4, .ref q5, .int 0, .int 0, .null, .null])), (q1, .inl (c1, nW, .inr (.inl (fun _ => 0)))), (q2, .inl (c2, nH, .inr (.inl (fun _ => 0)))), (q3, .inl (c3, ((nW + 1) * 40), .inr (.inl (fun _ => 0)))), (q4, .inl (c4, ((nW + 1) * 40), .inl (fun _ => 0))), (q5, .inl (c5, (nW + 1), .inl (fun _ => 0)))]) := hD
  refine lv_aload_n hx hb dX0_init_86 rfl (lv_at hl 1 rfl) ?_
  refine lv_iload_n hx hb dX0_init_87 rfl (lv_at hl 0 rfl) ?_
  refine va_newa (atype := .int) (ty := .int) (a0 := ((nW + 1), .inl (fun _ => 0))) (N' := (nW + 1)) hx hb (hts (.arrayClass .int) (by decide +kernel)) rfl hK hP hD hS hA (fun _ => rfl) (nI_pos (by omega)) (nI_clamp (by omega)) (by show (nW + 1) * 4 ≤ 536870912; omega) (by show 0 + 1 + 1 + 1 + 1 + 1 + 1 ≤ 7; omega) (by show 0 + nW + nH + ((nW + 1) * 40) + ((nW + 1) * 40) + (nW + 1) + (nW + 1) ≤ 5163; omega) dX0_init_88 (fun q6 c6 H hK hP hD hS => ?_)
  have hP : va_P (dC, dI) vwCl ([(h0, .inr (1, [.int (nI nW), .int (nI nH), .ref q1, .ref q2, .ref q3, .ref q4, .ref q5, .int 0, .int 0, .null, .null])), (q1, .inl (c1, nW, .inr (.inl (fun _ => 0)))), (q2, .inl (c2, nH, .inr (.inl (fun _ => 0)))), (q3, .inl (c3, ((nW + 1) * 40), .inr (.inl (fun _ => 0)))), (q4, .inl (c4, ((nW + 1) * 40), .inl (fun _ => 0))), (q5, .inl (c5, (nW + 1), .inl (fun _ => 0))), (q6, .inl (c6, (nW + 1), .inl (fun _ => 0)))]) H := hP
  have hD : va_D A ([(h0, .inr (1, [.int (nI nW), .int (nI nH), .ref q1, .ref q2, .ref q3, .ref q4, .ref q5, .int 0, .int 0, .null, .null])), (q1, .inl (c1, nW, .inr (.inl (fun _ => 0)))), (q2, .inl (c2, nH, .inr (.inl (fun _ => 0)))), (q3, .inl (c3, ((nW + 1) * 40), .inr (.inl (fun _ => 0)))), (q4, .inl (c4, ((nW + 1) * 40), .inl (fun _ => 0))), (q5, .inl (c5, (nW + 1), .inl (fun _ => 0))), (q6, .inl (c6, (nW + 1), .inl (fun _ => 0)))]) := hD
  have hK : va_K (dC, dI) vwCl [(c1, .long), (c2, .long), (c3, .long), (c4, .int), (c5, .int), (c6, .int)] s := hK
  refine va_putF (D := (dC, dI)) (ci := 1) (v := .ref q6) (ty := .array .int) (C := RX0) (T := TX0) (N := 11) hx hb hts in_X0_init tyX0 tyX0_ok nmX0 hown hK hP hD hS 0 rfl rfl 9 (by decide) (hts (.fieldLink RX0 42 "SignCutter" "tails" "[I") (by decide +kernel)) (fun _ h9 => h9) rfl hin rfl (by decide +kernel) rfl rfl (Nat.le_of_ble_eq_true rfl) dX0_init_90 (fun H locs hP hD hS => ?_)
  have hP : va_P (dC, dI) vwCl ([(h0, .inr (1, [.int (nI nW), .int (nI nH), .ref q1, .ref q2, .ref q3, .ref q4, .ref q5, .int 0, .int 0, .ref q6, .null])), (q1, .inl (c1, nW, .inr (.inl (fun _ => 0)))), (q2, .inl (c2, nH, .inr (.inl (fun _ => 0)))), (q3, .inl (c3, ((nW + 1) * 40), .inr (.inl (fun _ => 0)))), (q4, .inl (c4, ((nW + 1) * 40), .inl (fun _ => 0))), (q5, .inl (c5, (nW + 1), .inl (fun _ => 0))), (q6, .inl (c6, (nW + 1), .inl (fun _ => 0)))]) H := hP
  have hD : va_D A ([(h0, .inr (1, [.int (nI nW), .int (nI nH), .ref q1, .ref q2, .ref q3, .ref q4, .ref q5, .int 0, .int 0, .ref q6, .null])), (q1, .inl (c1, nW, .inr (.inl (fun _ => 0)))), (q2, .inl (c2, nH, .inr (.inl (fun _ => 0)))), (q3, .inl (c3, ((nW + 1) * 40), .inr (.inl (fun _ => 0)))), (q4, .inl (c4, ((nW + 1) * 40), .inl (fun _ => 0))), (q5, .inl (c5, (nW + 1), .inl (fun _ => 0))), (q6, .inl (c6, (nW + 1), .inl (fun _ => 0)))]) := hD
  refine lv_aload_n hx hb dX0_init_93 rfl (lv_at hl 1 rfl) ?_
  refine lv_iload_n hx hb dX0_init_94 rfl (lv_at hl 0 rfl) ?_
  refine va_newa (atype := .int) (ty := .int) (a0 := ((nW + 1), .inl (fun _ => 0))) (N' := (nW + 1)) hx hb (hts (.arrayClass .int) (by decide +kernel)) rfl hK hP hD hS hA (fun _ => rfl) (nI_pos (by omega)) (nI_clamp (by omega)) (by show (nW + 1) * 4 ≤ 536870912; omega) (by show 0 + 1 + 1 + 1 + 1 + 1 + 1 + 1 ≤ 7; omega) (by show 0 + nW + nH + ((nW + 1) * 40) + ((nW + 1) * 40) + (nW + 1) + (nW + 1) + (nW + 1) ≤ 5163; omega) dX0_init_95 (fun q7 c7 H hK hP hD hS => ?_)
  have hP : va_P (dC, dI) vwCl ([(h0, .inr (1, [.int (nI nW), .int (nI nH), .ref q1, .ref q2, .ref q3, .ref q4, .ref q5, .int 0, .int 0, .ref q6, .null])), (q1, .inl (c1, nW, .inr (.inl (fun _ => 0)))), (q2, .inl (c2, nH, .inr (.inl (fun _ => 0)))), (q3, .inl (c3, ((nW + 1) * 40), .inr (.inl (fun _ => 0)))), (q4, .inl (c4, ((nW + 1) * 40), .inl (fun _ => 0))), (q5, .inl (c5, (nW + 1), .inl (fun _ => 0))), (q6, .inl (c6, (nW + 1), .inl (fun _ => 0))), (q7, .inl (c7, (nW + 1), .inl (fun _ => 0)))]) H := hP
  have hD : va_D A ([(h0, .inr (1, [.int (nI nW), .int (nI nH), .ref q1, .ref q2, .ref q3, .ref q4, .ref q5, .int 0, .int 0, .ref q6, .null])), (q1, .inl (c1, nW, .inr (.inl (fun _ => 0)))), (q2, .inl (c2, nH, .inr (.inl (fun _ => 0)))), (q3, .inl (c3, ((nW + 1) * 40), .inr (.inl (fun _ => 0)))), (q4, .inl (c4, ((nW + 1) * 40), .inl (fun _ => 0))), (q5, .inl (c5, (nW + 1), .inl (fun _ => 0))), (q6, .inl (c6, (nW + 1), .inl (fun _ => 0))), (q7, .inl (c7, (nW + 1), .inl (fun _ => 0)))]) := hD
  have hK : va_K (dC, dI) vwCl [(c1, .long), (c2, .long), (c3, .long), (c4, .int), (c5, .int), (c6, .int), (c7, .int)] s := hK
  refine va_putF (D := (dC, dI)) (ci := 1) (v := .ref q7) (ty := .array .int) (C := RX0) (T := TX0) (N := 11) hx hb hts in_X0_init tyX0 tyX0_ok nmX0 hown hK hP hD hS 0 rfl rfl 10 (by decide) (hts (.fieldLink RX0 45 "SignCutter" "longerTails" "[I") (by decide +kernel)) (fun _ h9 => h9) rfl hin rfl (by decide +kernel) rfl rfl (Nat.le_of_ble_eq_true rfl) dX0_init_97 (fun H locs hP hD hS => ?_)
  have hP : va_P (dC, dI) vwCl ([(h0, .inr (1, [.int (nI nW), .int (nI nH), .ref q1, .ref q2, .ref q3, .ref q4, .ref q5, .int 0, .int 0, .ref q6, .ref q7])), (q1, .inl (c1, nW, .inr (.inl (fun _ => 0)))), (q2, .inl (c2, nH, .inr (.inl (fun _ => 0)))), (q3, .inl (c3, ((nW + 1) * 40), .inr (.inl (fun _ => 0)))), (q4, .inl (c4, ((nW + 1) * 40), .inl (fun _ => 0))), (q5, .inl (c5, (nW + 1), .inl (fun _ => 0))), (q6, .inl (c6, (nW + 1), .inl (fun _ => 0))), (q7, .inl (c7, (nW + 1), .inl (fun _ => 0)))]) H := hP
  have hD : va_D A ([(h0, .inr (1, [.int (nI nW), .int (nI nH), .ref q1, .ref q2, .ref q3, .ref q4, .ref q5, .int 0, .int 0, .ref q6, .ref q7])), (q1, .inl (c1, nW, .inr (.inl (fun _ => 0)))), (q2, .inl (c2, nH, .inr (.inl (fun _ => 0)))), (q3, .inl (c3, ((nW + 1) * 40), .inr (.inl (fun _ => 0)))), (q4, .inl (c4, ((nW + 1) * 40), .inl (fun _ => 0))), (q5, .inl (c5, (nW + 1), .inl (fun _ => 0))), (q6, .inl (c6, (nW + 1), .inl (fun _ => 0))), (q7, .inl (c7, (nW + 1), .inl (fun _ => 0)))]) := hD
  refine W.widen (k := 7) (n := 5163) (by show 0 + 1 + 1 + 1 + 1 + 1 + 1 + 1 ≤ 7; omega) (by show 0 + nW + nH + ((nW + 1) * 40) + ((nW + 1) * 40) + (nW + 1) + (nW + 1) + (nW + 1) ≤ 5163; omega) ?_
  exact W.vret hx hb hr (fun t ht hW => ⟨⟨((fun j => match j with | 0 => h0 | 1 => q1 | 2 => q2 | 3 => q3 | 4 => q4 | 5 => q5 | 6 => q6 | _ => q7), (fun j => match j with | 1 => c1 | 2 => c2 | 3 => c3 | 4 => c4 | 5 => c5 | 6 => c6 | _ => c7)), rfl, rfl, by rw [ht]; exact hP, va_K.moved hW.alike hK, hD⟩, hS.F ht⟩) hS.2.2 dX0_init_100
