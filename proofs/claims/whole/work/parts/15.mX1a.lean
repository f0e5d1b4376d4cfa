/-! ===== PRINTED BY wip/gen/gen.py: the machine does what the predicates say ===== -/
theorem in_X1_thrown : ∀ w ∈ wsX10, w ∈ wsX1_thrown := by decide +kernel
set_option maxHeartbeats 4000000 in
set_option maxRecDepth 100000 in
theorem mX1_thrown (l : Launch) {dC : Nat → ClassId} {dI : Nat → Nat → Nat} {ad : Nat → Nat} {cA : Nat → ClassId} {nW : Nat} {nH : Nat} {th : Int32} {fn : Int32} {wd : Int32} {dk : Nat → Int32} {mn : Nat → Int32} {cs : Nat → Int64} {nx : Nat → Int32} {gs : Nat → Int32} {pr : Nat → Int64} {ln : Nat → Int32} {wy : Nat → Int32} {ct : Nat → Int64} {bf : Nat → Int64} {sg : Nat → Int64} {my : Nat → Int32} {Post : Int32 → Prop} (h : wX1_thrown th Post) : Met l yX1_thrown wsX1_thrown ({ frames := 0, cells := 0, slots := 0, locals := 0 } : Room) (zPc (dC, dI) vwCl (tX1 cA) (wX1 ad cA nW nH th fn wd dk mn cs nx gs pr ln wy ct bf sg my) [.ref (ad 0)]) (vp_Si Post) 0 0 (fun _ => False) := by
  refine Met.ofW (cc := cX1_thrown) (maxL := 1) (ret := (some .int)) (by decide) rfl ?_
  intro p e s m args below meth c s₁ B hml hv
  obtain ⟨rfl, hP, hK⟩ := hv
  have hC : zC p s m [.ref (ad 0)].toArray meth c cX1_thrown wsX1_thrown (some .int) 1 RX1 := ⟨B.exec, B.bytes, B.returns, hml, findClass_of_methodNamed B.named, atoms_spec (ws := wsX1_thrown) B.pre, B.notSynchronized⟩
  have hC0 := hC
  obtain ⟨hx, hb, hr, hml, hown, hts, hlocks⟩ := hC
  have hl := lv_entry ([.ref (ad 0)]) (n := 1) (Nat.le_of_ble_eq_true rfl)
  rw [lg_entry_eq]
  generalize (lg_sl ([.ref (ad 0)]) ++ List.replicate (1 - (lg_sl ([.ref (ad 0)])).length) Slot.unset).toArray = ls at hl ⊢
  have hl : lv_has ls 1 [(0, .ref (ad 0))] := hl
  unfold wX1_thrown at h
  refine lv_aload_n hx hb dX1_thrown_0 rfl (lv_at hl 0 rfl) ?_
  refine va_get (D := (dC, dI)) (ci := 2) (v := .int th) (C := RX1) (T := TX1) (N := 17) hx hb hts in_X1_thrown hown hK hP 0 rfl rfl 0 (by decide) (hts (.fieldLink RX1 55 "SignCutterModel" "thrown" "I") (by decide +kernel)) (fun _ h9 => h9) rfl dX1_thrown_1 ?_
  exact W.iret (v := th) hx hb hr (fun t ht hW => ⟨_, rfl, h, ht⟩) (fun q hq => absurd hq List.not_mem_nil) dX1_thrown_4
theorem in_X1_column : ∀ w ∈ wsX10, w ∈ wsX1_column := by decide +kernel
set_option maxHeartbeats 4000000 in
set_option maxRecDepth 100000 in
theorem tX1_column_30 {p : Program} {l : Launch} {e : Env} {s : State} {m : MethodId} {args : Array Value} {below : List Frame} {meth : Method} {c : Code} {dC : Nat → ClassId} {dI : Nat → Nat → Nat} {ad : Nat → Nat} {cA : Nat → ClassId} {nW : Nat} {nH : Nat} {fn : Int32} {wd : Int32} {mn : Nat → Int32} {cs : Nat → Int64} {nx : Nat → Int32} {gs : Nat → Int32} {pr : Nat → Int64} {ln : Nat → Int32} {wy : Nat → Int32} {ct : Nat → Int64} {bf : Nat → Int64} {sg : Nat → Int64} {my : Nat → Int32} {a1 : Int32} {a2 : Int32} {a3 : Int32} {Post : (Int32) → (Nat → Int32) → Prop} (hC : zC p s m args meth c cX1_column wsX1_column none 4 RX1) (hK : va_K (dC, dI) vwCl (tX1 cA) s) {A : Nat → Prop} (hA : ∀ q, s.heap.size ≤ q → A q) {Qc : Array Value → State → Outcome → State → Prop} (hQ : ∀ (th : Int32) (dk : Nat → Int32) (H : Heap) (locs : List Loc), va_P (dC, dI) vwCl (wX1 ad cA nW nH th fn wd dk mn cs nx gs pr ln wy ct bf sg my) H → va_D A (wX1 ad cA nW nH th fn wd dk mn cs nx gs pr ln wy ct bf sg my) → va_S A s.heap H locs → Post th dk → ∀ t : State, t.heap = H → s.WarmedH t.vm → Qc args s (.returned none) t) : ∀ (s0 : Int32) (th : Int32) (dk : Nat → Int32) (H : Heap) (locs : List Loc), va_P (dC, dI) vwCl (wX1 ad cA nW nH th fn wd dk mn cs nx gs pr ln wy ct bf sg my) H → va_D A (wX1 ad cA nW nH th fn wd dk mn cs nx gs pr ln wy ct bf sg my) → va_S A s.heap H locs → ∀ (ls : Array Slot), lv_has ls 4 [(0, .ref (ad 0)), (1, .int a1), (2, .int a2), (3, .int a3)] → jX1_column_30 nW nH a1 a2 a3 Post s0 th dk → W p l e ({ frames := 0, cells := 0, slots := 0, locals := 0 } : Room) s m args below meth c H locs 0 0 (MQ below Qc args s 0 0 A) (F0 m 30 ls [.int s0, .ref (ad 0)]) := by
  have hC0 := hC
  obtain ⟨hx, hb, hr, hml, hown, hts, hlocks⟩ := hC
  intro s0 th dk H locs hP hD hS ls hl h
  unfold jX1_column_30 at h
  refine va_put (D := (dC, dI)) (ci := 2) (v := .int s0) (ty := .int) (C := RX1) (T := TX1) (N := 17) hx hb hts in_X1_column tyX1 tyX1_ok nmX1 hown hK hP hD hS 0 rfl rfl 0 (by decide) (hts (.fieldLink RX1 55 "SignCutterModel" "thrown" "I") (by decide +kernel)) (fun _ h9 => h9) rfl (by decide +kernel) rfl rfl (Nat.le_of_ble_eq_true rfl) dX1_column_30 (fun H locs hP hD hS => ?_)
  have hP : va_P (dC, dI) vwCl (wX1 ad cA nW nH s0 fn wd dk mn cs nx gs pr ln wy ct bf sg my) H := hP
  have hD : va_D A (wX1 ad cA nW nH s0 fn wd dk mn cs nx gs pr ln wy ct bf sg my) := hD
  refine lv_aload_n hx hb dX1_column_33 rfl (lv_at hl 0 rfl) ?_
  refine va_get (D := (dC, dI)) (ci := 2) (v := .int s0) (C := RX1) (T := TX1) (N := 17) hx hb hts in_X1_column hown hK hP 0 rfl rfl 0 (by decide) (hts (.fieldLink RX1 55 "SignCutterModel" "thrown" "I") (by decide +kernel)) (fun _ h9 => h9) rfl dX1_column_34 ?_
  refine lv_if_ne (tgt := 52) hx hb dX1_column_37 (by decide) (fun c => ?_) (fun c => ?_)
  · have h := h.2 c
    exact W.vret hx hb hr (hQ _ _ _ _ hP hD hS h) hS.2.2 dX1_column_52
  · have h := h.1 c
    refine lv_aload_n hx hb dX1_column_40 rfl (lv_at hl 0 rfl) ?_
    refine va_get (D := (dC, dI)) (ci := 2) (v := .ref (ad 1)) (C := RX1) (T := TX1) (N := 17) hx hb hts in_X1_column hown hK hP 0 rfl rfl 3 (by decide) (hts (.fieldLink RX1 7 "SignCutterModel" "dark" "[Z") (by decide +kernel)) (fun _ h9 => h9) rfl dX1_column_41 ?_
    refine lv_bipush (v := 60) hx hb dX1_column_44 (by decide) ?_
    refine lv_iload_n hx hb dX1_column_46 rfl (lv_at hl 2 rfl) ?_
    refine lv_imul hx hb dX1_column_47 ?_
    refine lv_iload_n hx hb dX1_column_48 rfl (lv_at hl 1 rfl) ?_
    refine lv_iadd hx hb dX1_column_49 ?_
    refine lv_iload_n hx hb dX1_column_50 rfl (lv_at hl 3 rfl) ?_
    refine z_zast hx hb hK hP hD hS 1 0 rfl rfl h dX1_column_51 (fun j_1 H locs h hP hD hS => ?_)
    have hP : va_P (dC, dI) vwCl (wX1 ad cA nW nH s0 fn wd (upd dk j_1 (vp_nar .boolean a3)) mn cs nx gs pr ln wy ct bf sg my) H := hP
    have hD : va_D A (wX1 ad cA nW nH s0 fn wd (upd dk j_1 (vp_nar .boolean a3)) mn cs nx gs pr ln wy ct bf sg my) := hD
    exact W.vret hx hb hr (hQ _ _ _ _ hP hD hS h) hS.2.2 dX1_column_52
set_option maxHeartbeats 4000000 in
set_option maxRecDepth 100000 in
theorem tX1_column_25 {p : Program} {l : Launch} {e : Env} {s : State} {m : MethodId} {args : Array Value} {below : List Frame} {meth : Method} {c : Code} {dC : Nat → ClassId} {dI : Nat → Nat → Nat} {ad : Nat → Nat} {cA : Nat → ClassId} {nW : Nat} {nH : Nat} {fn : Int32} {wd : Int32} {mn : Nat → Int32} {cs : Nat → Int64} {nx : Nat → Int32} {gs : Nat → Int32} {pr : Nat → Int64} {ln : Nat → Int32} {wy : Nat → Int32} {ct : Nat → Int64} {bf : Nat → Int64} {sg : Nat → Int64} {my : Nat → Int32} {a1 : Int32} {a2 : Int32} {a3 : Int32} {Post : (Int32) → (Nat → Int32) → Prop} (hC : zC p s m args meth c cX1_column wsX1_column none 4 RX1) (hK : va_K (dC, dI) vwCl (tX1 cA) s) {A : Nat → Prop} (hA : ∀ q, s.heap.size ≤ q → A q) {Qc : Array Value → State → Outcome → State → Prop} (hQ : ∀ (th : Int32) (dk : Nat → Int32) (H : Heap) (locs : List Loc), va_P (dC, dI) vwCl (wX1 ad cA nW nH th fn wd dk mn cs nx gs pr ln wy ct bf sg my) H → va_D A (wX1 ad cA nW nH th fn wd dk mn cs nx gs pr ln wy ct bf sg my) → va_S A s.heap H locs → Post th dk → ∀ t : State, t.heap = H → s.WarmedH t.vm → Qc args s (.returned none) t) : ∀ (th : Int32) (dk : Nat → Int32) (H : Heap) (locs : List Loc), va_P (dC, dI) vwCl (wX1 ad cA nW nH th fn wd dk mn cs nx gs pr ln wy ct bf sg my) H → va_D A (wX1 ad cA nW nH th fn wd dk mn cs nx gs pr ln wy ct bf sg my) → va_S A s.heap H locs → ∀ (ls : Array Slot), lv_has ls 4 [(0, .ref (ad 0)), (1, .int a1), (2, .int a2), (3, .int a3)] → jX1_column_25 nW nH a1 a2 a3 Post th dk → W p l e ({ frames := 0, cells := 0, slots := 0, locals := 0 } : Room) s m args below meth c H locs 0 0 (MQ below Qc args s 0 0 A) (F0 m 25 ls [.ref (ad 0)]) := by
  have hC0 := hC
  obtain ⟨hx, hb, hr, hml, hown, hts, hlocks⟩ := hC
  intro th dk H locs hP hD hS ls hl h
  unfold jX1_column_25 at h
  refine lv_iconst (v := 1) hx hb dX1_column_25 (by decide) ?_
  refine lv_goto (tgt := 30) hx hb dX1_column_26 (by decide) ?_
  exact tX1_column_30 hC0 hK hA hQ _ _ _ _ _ hP hD hS ls (lv_sub hl [0, 1, 2, 3] rfl) h
set_option maxHeartbeats 4000000 in
set_option maxRecDepth 100000 in
theorem mX1_column (l : Launch) {dC : Nat → ClassId} {dI : Nat → Nat → Nat} {ad : Nat → Nat} {cA : Nat → ClassId} {nW : Nat} {nH : Nat} {th : Int32} {fn : Int32} {wd : Int32} {dk : Nat → Int32} {mn : Nat → Int32} {cs : Nat → Int64} {nx : Nat → Int32} {gs : Nat → Int32} {pr : Nat → Int64} {ln : Nat → Int32} {wy : Nat → Int32} {ct : Nat → Int64} {bf : Nat → Int64} {sg : Nat → Int64} {my : Nat → Int32} {sz : Nat} {a1 : Int32} {a2 : Int32} {a3 : Int32} {Post : (Int32) → (Nat → Int32) → Prop} (h : wX1_column nW nH th dk a1 a2 a3 Post) : Met l yX1_column wsX1_column ({ frames := 0, cells := 0, slots := 0, locals := 0 } : Room) (zPw (dC, dI) vwCl (tX1 cA) (wX1 ad cA nW nH th fn wd dk mn cs nx gs pr ln wy ct bf sg my) sz [.ref (ad 0), .int a1, .int a2, .int a3]) (va_Qv (S := (Int32) × (Nat → Int32)) (fun (u : (Int32) × (Nat → Int32)) => Post u.1 u.2) (zB (dC, dI) vwCl (tX1 cA) (wX1 ad cA nW nH th fn wd dk mn cs nx gs pr ln wy ct bf sg my) sz (fun u : (Int32) × (Nat → Int32) => wX1 ad cA nW nH u.1 fn wd u.2 mn cs nx gs pr ln wy ct bf sg my)) (va_A (wX1 ad cA nW nH th fn wd dk mn cs nx gs pr ln wy ct bf sg my) sz)) 0 0 (va_A (wX1 ad cA nW nH th fn wd dk mn cs nx gs pr ln wy ct bf sg my) sz) := by
  refine Met.ofW (cc := cX1_column) (maxL := 4) (ret := none) (by decide) rfl ?_
  intro p e s m args below meth c s₁ B hml hv
  obtain ⟨rfl, hsz, hP, hK, hD0⟩ := hv
  have hC : zC p s m [.ref (ad 0), .int a1, .int a2, .int a3].toArray meth c cX1_column wsX1_column none 4 RX1 := ⟨B.exec, B.bytes, B.returns, hml, findClass_of_methodNamed B.named, atoms_spec (ws := wsX1_column) B.pre, B.notSynchronized⟩
  have hC0 := hC
  obtain ⟨hx, hb, hr, hml, hown, hts, hlocks⟩ := hC
  subst hsz
  have hD := hD0.self (sz := s.heap.size)
  have hA : ∀ q : Nat, s.heap.size ≤ q → va_A (wX1 ad cA nW nH th fn wd dk mn cs nx gs pr ln wy ct bf sg my) s.heap.size q := fun q h => Or.inr h
  have hS : va_S (va_A (wX1 ad cA nW nH th fn wd dk mn cs nx gs pr ln wy ct bf sg my) s.heap.size) s.heap s.heap [] := va_S.rf
  generalize hQe : (va_Qv (S := (Int32) × (Nat → Int32)) (fun (u : (Int32) × (Nat → Int32)) => Post u.1 u.2) (zB (dC, dI) vwCl (tX1 cA) (wX1 ad cA nW nH th fn wd dk mn cs nx gs pr ln wy ct bf sg my) s.heap.size (fun u : (Int32) × (Nat → Int32) => wX1 ad cA nW nH u.1 fn wd u.2 mn cs nx gs pr ln wy ct bf sg my)) (va_A (wX1 ad cA nW nH th fn wd dk mn cs nx gs pr ln wy ct bf sg my) s.heap.size)) = Qc
  generalize hAe : va_A (wX1 ad cA nW nH th fn wd dk mn cs nx gs pr ln wy ct bf sg my) s.heap.size = A at hD hA hS hQe ⊢
  have hQ : ∀ (th : Int32) (dk : Nat → Int32) (H : Heap) (locs : List Loc), va_P (dC, dI) vwCl (wX1 ad cA nW nH th fn wd dk mn cs nx gs pr ln wy ct bf sg my) H → va_D A (wX1 ad cA nW nH th fn wd dk mn cs nx gs pr ln wy ct bf sg my) → va_S A s.heap H locs → Post th dk → ∀ t : State, t.heap = H → s.WarmedH t.vm → Qc [.ref (ad 0), .int a1, .int a2, .int a3].toArray s (.returned none) t := by
    intro th dk H locs hP hD hS h t ht hW
    rw [← hQe]
    exact ⟨⟨(th, dk), rfl, h, by rw [ht]; exact hP, va_K.moved hW.alike hK, hAe ▸ hD⟩, hS.F ht⟩
  clear hQe hAe
  have hl := lv_entry ([.ref (ad 0), .int a1, .int a2, .int a3]) (n := 4) (Nat.le_of_ble_eq_true rfl)
  rw [lg_entry_eq]
  generalize (lg_sl ([.ref (ad 0), .int a1, .int a2, .int a3]) ++ List.replicate (4 - (lg_sl ([.ref (ad 0), .int a1, .int a2, .int a3])).length) Slot.unset).toArray = ls at hl ⊢
  have hl : lv_has ls 4 [(0, .ref (ad 0)), (1, .int a1), (2, .int a2), (3, .int a3)] := hl
  show W p l e ({ frames := 0, cells := 0, slots := 0, locals := 0 } : Room) s m _ below meth c s.heap [] 0 0 (MQ below Qc _ s 0 0 A) (F0 m 0 ls [])
  unfold wX1_column at h
  refine lv_aload_n hx hb dX1_column_0 rfl (lv_at hl 0 rfl) ?_
  refine lv_iload_n hx hb dX1_column_1 rfl (lv_at hl 1 rfl) ?_
  refine lv_if_lt (tgt := 25) hx hb dX1_column_2 (by decide) (fun c => ?_) (fun c => ?_)
  · have h := h.1 c
    exact tX1_column_25 hC0 hK hA hQ _ _ _ _ hP hD hS ls (lv_sub hl [0, 1, 2, 3] rfl) h
  · have h := h.2 c
    refine lv_iload_n hx hb dX1_column_5 rfl (lv_at hl 1 rfl) ?_
    refine lv_aload_n hx hb dX1_column_6 rfl (lv_at hl 0 rfl) ?_
    refine va_get (D := (dC, dI)) (ci := 2) (v := .int (nI nW)) (C := RX1) (T := TX1) (N := 17) hx hb hts in_X1_column hown hK hP 0 rfl rfl 1 (by decide) (hts (.fieldLink RX1 48 "SignCutterModel" "width" "I") (by decide +kernel)) (fun _ h9 => h9) rfl dX1_column_7 ?_
    refine lv_icmp_ge (tgt := 25) hx hb dX1_column_10 (by decide) (fun c => ?_) (fun c => ?_)
    · have h := h.1 c
      exact tX1_column_25 hC0 hK hA hQ _ _ _ _ hP hD hS ls (lv_sub hl [0, 1, 2, 3] rfl) h
    · have h := h.2 c
      refine lv_iload_n hx hb dX1_column_13 rfl (lv_at hl 2 rfl) ?_
      refine lv_if_lt (tgt := 25) hx hb dX1_column_14 (by decide) (fun c => ?_) (fun c => ?_)
      · have h := h.1 c
        exact tX1_column_25 hC0 hK hA hQ _ _ _ _ hP hD hS ls (lv_sub hl [0, 1, 2, 3] rfl) h
      · have h := h.2 c
        refine lv_iload_n hx hb dX1_column_17 rfl (lv_at hl 2 rfl) ?_
        refine lv_aload_n hx hb dX1_column_18 rfl (lv_at hl 0 rfl) ?_
        refine va_get (D := (dC, dI)) (ci := 2) (v := .int (nI nH)) (C := RX1) (T := TX1) (N := 17) hx hb hts in_X1_column hown hK hP 0 rfl rfl 2 (by decide) (hts (.fieldLink RX1 52 "SignCutterModel" "height" "I") (by decide +kernel)) (fun _ h9 => h9) rfl dX1_column_19 ?_
        refine lv_icmp_lt (tgt := 29) hx hb dX1_column_22 (by decide) (fun c => ?_) (fun c => ?_)
        · have h := h.1 c
          refine lv_iconst (v := 0) hx hb dX1_column_29 (by decide) ?_
          exact tX1_column_30 hC0 hK hA hQ _ _ _ _ _ hP hD hS ls (lv_sub hl [0, 1, 2, 3] rfl) h
        · have h := h.2 c
          exact tX1_column_25 hC0 hK hA hQ _ _ _ _ hP hD hS ls (lv_sub hl [0, 1, 2, 3] rfl) h
theorem in_X1_isDark : ∀ w ∈ wsX10, w ∈ wsX1_isDark := by decide +kernel
set_option maxHeartbeats 4000000 in
set_option maxRecDepth 100000 in
theorem mX1_isDark (l : Launch) {dC : Nat → ClassId} {dI : Nat → Nat → Nat} {ad : Nat → Nat} {cA : Nat → ClassId} {nW : Nat} {nH : Nat} {th : Int32} {fn : Int32} {wd : Int32} {dk : Nat → Int32} {mn : Nat → Int32} {cs : Nat → Int64} {nx : Nat → Int32} {gs : Nat → Int32} {pr : Nat → Int64} {ln : Nat → Int32} {wy : Nat → Int32} {ct : Nat → Int64} {bf : Nat → Int64} {sg : Nat → Int64} {my : Nat → Int32} {a1 : Int32} {a2 : Int32} {Post : Int32 → Prop} (h : wX1_isDark dk a1 a2 Post) : Met l yX1_isDark wsX1_isDark ({ frames := 0, cells := 0, slots := 0, locals := 0 } : Room) (zPc (dC, dI) vwCl (tX1 cA) (wX1 ad cA nW nH th fn wd dk mn cs nx gs pr ln wy ct bf sg my) [.ref (ad 0), .int a1, .int a2]) (vp_Si Post) 0 0 (fun _ => False) := by
  refine Met.ofW (cc := cX1_isDark) (maxL := 3) (ret := (some .boolean)) (by decide) rfl ?_
  intro p e s m args below meth c s₁ B hml hv
  obtain ⟨rfl, hP, hK⟩ := hv
  have hC : zC p s m [.ref (ad 0), .int a1, .int a2].toArray meth c cX1_isDark wsX1_isDark (some .boolean) 3 RX1 := ⟨B.exec, B.bytes, B.returns, hml, findClass_of_methodNamed B.named, atoms_spec (ws := wsX1_isDark) B.pre, B.notSynchronized⟩
  have hC0 := hC
  obtain ⟨hx, hb, hr, hml, hown, hts, hlocks⟩ := hC
  have hl := lv_entry ([.ref (ad 0), .int a1, .int a2]) (n := 3) (Nat.le_of_ble_eq_true rfl)
  rw [lg_entry_eq]
  generalize (lg_sl ([.ref (ad 0), .int a1, .int a2]) ++ List.replicate (3 - (lg_sl ([.ref (ad 0), .int a1, .int a2])).length) Slot.unset).toArray = ls at hl ⊢
  have hl : lv_has ls 3 [(0, .ref (ad 0)), (1, .int a1), (2, .int a2)] := hl
  unfold wX1_isDark at h
  refine lv_aload_n hx hb dX1_isDark_0 rfl (lv_at hl 0 rfl) ?_
  refine va_get (D := (dC, dI)) (ci := 2) (v := .ref (ad 1)) (C := RX1) (T := TX1) (N := 17) hx hb hts in_X1_isDark hown hK hP 0 rfl rfl 3 (by decide) (hts (.fieldLink RX1 7 "SignCutterModel" "dark" "[Z") (by decide +kernel)) (fun _ h9 => h9) rfl dX1_isDark_1 ?_
  refine lv_bipush (v := 60) hx hb dX1_isDark_4 (by decide) ?_
  refine lv_iload_n hx hb dX1_isDark_6 rfl (lv_at hl 2 rfl) ?_
  refine lv_imul hx hb dX1_isDark_7 ?_
  refine lv_iload_n hx hb dX1_isDark_8 rfl (lv_at hl 1 rfl) ?_
  refine lv_iadd hx hb dX1_isDark_9 ?_
  refine z_zald hx hb hK hP 1 0 rfl rfl h dX1_isDark_10 (fun j_1 h => ?_)
  exact W.zret (v := (dk j_1)) hx hb hr (z_nz h.1) (fun t ht hW => ⟨_, rfl, h.2, ht⟩) (fun q hq => absurd hq List.not_mem_nil) dX1_isDark_11
theorem in_X1_hasDark : ∀ w ∈ wsX10, w ∈ wsX1_hasDark := by decide +kernel
set_option maxHeartbeats 4000000 in
set_option maxRecDepth 100000 in
theorem tX1_hasDark_4 {p : Program} {l : Launch} {e : Env} {s : State} {m : MethodId} {args : Array Value} {below : List Frame} {meth : Method} {c : Code} {dC : Nat → ClassId} {dI : Nat → Nat → Nat} {ad : Nat → Nat} {cA : Nat → ClassId} {nW : Nat} {nH : Nat} {th : Int32} {fn : Int32} {wd : Int32} {dk : Nat → Int32} {mn : Nat → Int32} {cs : Nat → Int64} {nx : Nat → Int32} {gs : Nat → Int32} {pr : Nat → Int64} {ln : Nat → Int32} {wy : Nat → Int32} {ct : Nat → Int64} {bf : Nat → Int64} {sg : Nat → Int64} {my : Nat → Int32} {a1 : Int32} {Post : Int32 → Prop} (hC : zC p s m args meth c cX1_hasDark wsX1_hasDark (some .boolean) 4 RX1) (hK : va_K (dC, dI) vwCl (tX1 cA) s) (hP : va_P (dC, dI) vwCl (wX1 ad cA nW nH th fn wd dk mn cs nx gs pr ln wy ct bf sg my) s.heap) : ∀ (n : Nat), ∀ (x2 : Int32) (x3 : Int32) (ls : Array Slot), lv_has ls 4 [(0, .ref (ad 0)), (1, .int a1), (2, .int x2), (3, .int x3)] → lX1_hasDark_4 nW nH dk a1 Post n x2 x3 → W p l e ({ frames := 1, cells := 0, slots := 0, locals := 22 } : Room) s m args below meth c s.heap [] 0 0 (MQ below (vp_Si Post) args s 0 0 (fun _ => False)) (F0 m 4 ls []) := by
  have hC0 := hC
  obtain ⟨hx, hb, hr, hml, hown, hts, hlocks⟩ := hC
  intro n
  induction n with
  | zero =>
    intro x2 x3 ls hl h
    exact h.elim
  | succ n hr4 =>
    intro x2 x3 ls hl h
    have h : bX1_hasDark_4 nW nH dk a1 Post (lX1_hasDark_4 nW nH dk a1 Post n) x2 x3 := h
    unfold bX1_hasDark_4 at h
    refine lv_iload_n hx hb dX1_hasDark_4 rfl (lv_at hl 3 rfl) ?_
    refine lv_aload_n hx hb dX1_hasDark_5 rfl (lv_at hl 0 rfl) ?_
    refine va_get (D := (dC, dI)) (ci := 2) (v := .int (nI nH)) (C := RX1) (T := TX1) (N := 17) hx hb hts in_X1_hasDark hown hK hP 0 rfl rfl 2 (by decide) (hts (.fieldLink RX1 52 "SignCutterModel" "height" "I") (by decide +kernel)) (fun _ h9 => h9) rfl dX1_hasDark_6 ?_
    refine lv_icmp_ge (tgt := 49) hx hb dX1_hasDark_9 (by decide) (fun c => ?_) (fun c => ?_)
    · have h := h.1 c
      refine lv_iload_n hx hb dX1_hasDark_49 rfl (lv_at hl 2 rfl) ?_
      exact W.zret (v := x2) hx hb hr (z_nz h.1) (fun t ht hW => ⟨_, rfl, h.2, ht⟩) (fun q hq => absurd hq List.not_mem_nil) dX1_hasDark_50
    · have h := h.2 c
      refine lv_iload_n hx hb dX1_hasDark_12 rfl (lv_at hl 1 rfl) ?_
      refine lv_if_lt (tgt := 49) hx hb dX1_hasDark_13 (by decide) (fun c => ?_) (fun c => ?_)
      · have h := h.1 c
        refine lv_iload_n hx hb dX1_hasDark_49 rfl (lv_at hl 2 rfl) ?_
        exact W.zret (v := x2) hx hb hr (z_nz h.1) (fun t ht hW => ⟨_, rfl, h.2, ht⟩) (fun q hq => absurd hq List.not_mem_nil) dX1_hasDark_50
      · have h := h.2 c
        refine lv_iload_n hx hb dX1_hasDark_16 rfl (lv_at hl 1 rfl) ?_
        refine lv_aload_n hx hb dX1_hasDark_17 rfl (lv_at hl 0 rfl) ?_
        refine va_get (D := (dC, dI)) (ci := 2) (v := .int (nI nW)) (C := RX1) (T := TX1) (N := 17) hx hb hts in_X1_hasDark hown hK hP 0 rfl rfl 1 (by decide) (hts (.fieldLink RX1 48 "SignCutterModel" "width" "I") (by decide +kernel)) (fun _ h9 => h9) rfl dX1_hasDark_18 ?_
        refine lv_icmp_ge (tgt := 49) hx hb dX1_hasDark_21 (by decide) (fun c => ?_) (fun c => ?_)
        · have h := h.1 c
          refine lv_iload_n hx hb dX1_hasDark_49 rfl (lv_at hl 2 rfl) ?_
          exact W.zret (v := x2) hx hb hr (z_nz h.1) (fun t ht hW => ⟨_, rfl, h.2, ht⟩) (fun q hq => absurd hq List.not_mem_nil) dX1_hasDark_50
        · have h := h.2 c
          refine lv_iload_n hx hb dX1_hasDark_24 rfl (lv_at hl 2 rfl) ?_
          refine lv_if_ne (tgt := 37) hx hb dX1_hasDark_25 (by decide) (fun c => ?_) (fun c => ?_)
          · have h := h.2 c
            refine lv_iconst (v := 1) hx hb dX1_hasDark_37 (by decide) ?_
            refine lv_goto (tgt := 42) hx hb dX1_hasDark_38 (by decide) ?_
            refine lv_istore_n (lv' := [(2, .int 1), (0, .ref (ad 0)), (1, .int a1), (3, .int x3)]) hx hb dX1_hasDark_42 rfl hl (by decide) rfl (fun ls hl => ?_)
            refine lv_iinc (v := (x3 + 1)) (lv' := [(3, .int (x3 + 1)), (2, .int 1), (0, .ref (ad 0)), (1, .int a1)]) hx hb dX1_hasDark_43 hl (k := 3) rfl rfl (by decide) rfl (fun ls hl => ?_)
            refine lv_goto (tgt := 4) hx hb dX1_hasDark_46 (by decide) ?_
            exact hr4 _ _ ls (lv_sub hl [2, 3, 1, 0] rfl) h
          · have h := h.1 c
            refine lv_aload_n hx hb dX1_hasDark_28 rfl (lv_at hl 0 rfl) ?_
            refine lv_iload_n hx hb dX1_hasDark_29 rfl (lv_at hl 1 rfl) ?_
            refine lv_iload_n hx hb dX1_hasDark_30 rfl (lv_at hl 3 rfl) ?_
            refine z_cVi (ci := 2) (As := [.int a1, .int x3]) (rest := []) ⟨hx, hb, hml, hown, hts⟩ (mX1_isDark l h) (cwV 2 hts gX1_hasDark_X1_isDark rfl rfl rfl (by decide +kernel) ⟨Nat.le_of_ble_eq_true rfl, Nat.le_of_ble_eq_true rfl⟩) hK hP 0 rfl rfl rfl rfl hl.1 rfl (Nat.le_of_ble_eq_true rfl) dX1_hasDark_31 ⟨Nat.le_of_ble_eq_true rfl, Nat.le_of_ble_eq_true rfl⟩ (fun r_1 h => ?_)
            refine lv_if_eq (tgt := 41) hx hb dX1_hasDark_34 (by decide) (fun c => ?_) (fun c => ?_)
            · have h := h.1 c
              refine lv_iconst (v := 0) hx hb dX1_hasDark_41 (by decide) ?_
              refine lv_istore_n (lv' := [(2, .int 0), (0, .ref (ad 0)), (1, .int a1), (3, .int x3)]) hx hb dX1_hasDark_42 rfl hl (by decide) rfl (fun ls hl => ?_)
              refine lv_iinc (v := (x3 + 1)) (lv' := [(3, .int (x3 + 1)), (2, .int 0), (0, .ref (ad 0)), (1, .int a1)]) hx hb dX1_hasDark_43 hl (k := 3) rfl rfl (by decide) rfl (fun ls hl => ?_)
              refine lv_goto (tgt := 4) hx hb dX1_hasDark_46 (by decide) ?_
              exact hr4 _ _ ls (lv_sub hl [2, 3, 1, 0] rfl) h
            · have h := h.2 c
              refine lv_iconst (v := 1) hx hb dX1_hasDark_37 (by decide) ?_
              refine lv_goto (tgt := 42) hx hb dX1_hasDark_38 (by decide) ?_
              refine lv_istore_n (lv' := [(2, .int 1), (0, .ref (ad 0)), (1, .int a1), (3, .int x3)]) hx hb dX1_hasDark_42 rfl hl (by decide) rfl (fun ls hl => ?_)
              refine lv_iinc (v := (x3 + 1)) (lv' := [(3, .int (x3 + 1)), (2, .int 1), (0, .ref (ad 0)), (1, .int a1)]) hx hb dX1_hasDark_43 hl (k := 3) rfl rfl (by decide) rfl (fun ls hl => ?_)
              refine lv_goto (tgt := 4) hx hb dX1_hasDark_46 (by decide) ?_
              exact hr4 _ _ ls (lv_sub hl [2, 3, 1, 0] rfl) h
set_option maxHeartbeats 4000000 in
set_option maxRecDepth 100000 in
theorem mX1_hasDark (l : Launch) {dC : Nat → ClassId} {dI : Nat → Nat → Nat} {ad : Nat → Nat} {cA : Nat → ClassId} {nW : Nat} {nH : Nat} {th : Int32} {fn : Int32} {wd : Int32} {dk : Nat → Int32} {mn : Nat → Int32} {cs : Nat → Int64} {nx : Nat → Int32} {gs : Nat → Int32} {pr : Nat → Int64} {ln : Nat → Int32} {wy : Nat → Int32} {ct : Nat → Int64} {bf : Nat → Int64} {sg : Nat → Int64} {my : Nat → Int32} {a1 : Int32} {Post : Int32 → Prop} (h : wX1_hasDark nW nH dk a1 Post) : Met l yX1_hasDark wsX1_hasDark ({ frames := 1, cells := 0, slots := 0, locals := 22 } : Room) (zPc (dC, dI) vwCl (tX1 cA) (wX1 ad cA nW nH th fn wd dk mn cs nx gs pr ln wy ct bf sg my) [.ref (ad 0), .int a1]) (vp_Si Post) 0 0 (fun _ => False) := by
  refine Met.ofW (cc := cX1_hasDark) (maxL := 4) (ret := (some .boolean)) (by decide) rfl ?_
  intro p e s m args below meth c s₁ B hml hv
  obtain ⟨rfl, hP, hK⟩ := hv
  have hC : zC p s m [.ref (ad 0), .int a1].toArray meth c cX1_hasDark wsX1_hasDark (some .boolean) 4 RX1 := ⟨B.exec, B.bytes, B.returns, hml, findClass_of_methodNamed B.named, atoms_spec (ws := wsX1_hasDark) B.pre, B.notSynchronized⟩
  have hC0 := hC
  obtain ⟨hx, hb, hr, hml, hown, hts, hlocks⟩ := hC
  have hl := lv_entry ([.ref (ad 0), .int a1]) (n := 4) (Nat.le_of_ble_eq_true rfl)
  rw [lg_entry_eq]
  generalize (lg_sl ([.ref (ad 0), .int a1]) ++ List.replicate (4 - (lg_sl ([.ref (ad 0), .int a1])).length) Slot.unset).toArray = ls at hl ⊢
  have hl : lv_has ls 4 [(0, .ref (ad 0)), (1, .int a1)] := hl
  unfold wX1_hasDark at h
  refine lv_iconst (v := 0) hx hb dX1_hasDark_0 (by decide) ?_
  refine lv_istore_n (lv' := [(2, .int 0), (0, .ref (ad 0)), (1, .int a1)]) hx hb dX1_hasDark_1 rfl hl (by decide) rfl (fun ls hl => ?_)
  refine lv_iconst (v := 0) hx hb dX1_hasDark_2 (by decide) ?_
  refine lv_istore_n (lv' := [(3, .int 0), (2, .int 0), (0, .ref (ad 0)), (1, .int a1)]) hx hb dX1_hasDark_3 rfl hl (by decide) rfl (fun ls hl => ?_)
  obtain ⟨n_2, h⟩ := h
  exact tX1_hasDark_4 hC0 hK hP n_2 _ _ ls (lv_sub hl [2, 3, 1, 0] rfl) h
theorem in_X1_inRow : ∀ w ∈ wsX10, w ∈ wsX1_inRow := by decide +kernel
set_option maxHeartbeats 4000000 in
set_option maxRecDepth 100000 in
theorem tX1_inRow_4 {p : Program} {l : Launch} {e : Env} {s : State} {m : MethodId} {args : Array Value} {below : List Frame} {meth : Method} {c : Code} {dC : Nat → ClassId} {dI : Nat → Nat → Nat} {ad : Nat → Nat} {cA : Nat → ClassId} {nW : Nat} {nH : Nat} {th : Int32} {fn : Int32} {wd : Int32} {dk : Nat → Int32} {mn : Nat → Int32} {cs : Nat → Int64} {nx : Nat → Int32} {gs : Nat → Int32} {pr : Nat → Int64} {ln : Nat → Int32} {wy : Nat → Int32} {ct : Nat → Int64} {bf : Nat → Int64} {sg : Nat → Int64} {my : Nat → Int32} {a1 : Int32} {Post : Int32 → Prop} (hC : zC p s m args meth c cX1_inRow wsX1_inRow (some .int) 4 RX1) (hK : va_K (dC, dI) vwCl (tX1 cA) s) (hP : va_P (dC, dI) vwCl (wX1 ad cA nW nH th fn wd dk mn cs nx gs pr ln wy ct bf sg my) s.heap) : ∀ (n : Nat), ∀ (x2 : Int32) (x3 : Int32) (ls : Array Slot), lv_has ls 4 [(0, .ref (ad 0)), (1, .int a1), (2, .int x2), (3, .int x3)] → lX1_inRow_4 nW dk a1 Post n x2 x3 → W p l e ({ frames := 1, cells := 0, slots := 0, locals := 22 } : Room) s m args below meth c s.heap [] 0 0 (MQ below (vp_Si Post) args s 0 0 (fun _ => False)) (F0 m 4 ls []) := by
  have hC0 := hC
  obtain ⟨hx, hb, hr, hml, hown, hts, hlocks⟩ := hC
  intro n
  induction n with
  | zero =>
    intro x2 x3 ls hl h
    exact h.elim
  | succ n hr4 =>
    intro x2 x3 ls hl h
    have h : bX1_inRow_4 nW dk a1 Post (lX1_inRow_4 nW dk a1 Post n) x2 x3 := h
    unfold bX1_inRow_4 at h
    refine lv_iload_n hx hb dX1_inRow_4 rfl (lv_at hl 3 rfl) ?_
    refine lv_aload_n hx hb dX1_inRow_5 rfl (lv_at hl 0 rfl) ?_
    refine va_get (D := (dC, dI)) (ci := 2) (v := .int (nI nW)) (C := RX1) (T := TX1) (N := 17) hx hb hts in_X1_inRow hown hK hP 0 rfl rfl 1 (by decide) (hts (.fieldLink RX1 48 "SignCutterModel" "width" "I") (by decide +kernel)) (fun _ h9 => h9) rfl dX1_inRow_6 ?_
    refine lv_icmp_ge (tgt := 35) hx hb dX1_inRow_9 (by decide) (fun c => ?_) (fun c => ?_)
    · have h := h.1 c
      refine lv_iload_n hx hb dX1_inRow_35 rfl (lv_at hl 2 rfl) ?_
      exact W.iret (v := x2) hx hb hr (fun t ht hW => ⟨_, rfl, h, ht⟩) (fun q hq => absurd hq List.not_mem_nil) dX1_inRow_36
    · have h := h.2 c
      refine lv_aload_n hx hb dX1_inRow_12 rfl (lv_at hl 0 rfl) ?_
      refine lv_iload_n hx hb dX1_inRow_13 rfl (lv_at hl 3 rfl) ?_
      refine lv_iload_n hx hb dX1_inRow_14 rfl (lv_at hl 1 rfl) ?_
      refine z_cVi (ci := 2) (As := [.int x3, .int a1]) (rest := []) ⟨hx, hb, hml, hown, hts⟩ (mX1_isDark l h) (cwV 2 hts gX1_inRow_X1_isDark rfl rfl rfl (by decide +kernel) ⟨Nat.le_of_ble_eq_true rfl, Nat.le_of_ble_eq_true rfl⟩) hK hP 0 rfl rfl rfl rfl hl.1 rfl (Nat.le_of_ble_eq_true rfl) dX1_inRow_15 ⟨Nat.le_of_ble_eq_true rfl, Nat.le_of_ble_eq_true rfl⟩ (fun r_1 h => ?_)
      refine lv_if_eq (tgt := 27) hx hb dX1_inRow_18 (by decide) (fun c => ?_) (fun c => ?_)
      · have h := h.1 c
        refine lv_iload_n hx hb dX1_inRow_27 rfl (lv_at hl 2 rfl) ?_
        refine lv_istore_n (lv' := [(2, .int x2), (0, .ref (ad 0)), (1, .int a1), (3, .int x3)]) hx hb dX1_inRow_28 rfl hl (by decide) rfl (fun ls hl => ?_)
        refine lv_iinc (v := (x3 + 1)) (lv' := [(3, .int (x3 + 1)), (2, .int x2), (0, .ref (ad 0)), (1, .int a1)]) hx hb dX1_inRow_29 hl (k := 3) rfl rfl (by decide) rfl (fun ls hl => ?_)
        refine lv_goto (tgt := 4) hx hb dX1_inRow_32 (by decide) ?_
        exact hr4 _ _ ls (lv_sub hl [2, 3, 1, 0] rfl) h
      · have h := h.2 c
        refine lv_iload_n hx hb dX1_inRow_21 rfl (lv_at hl 2 rfl) ?_
        refine lv_iconst (v := 1) hx hb dX1_inRow_22 (by decide) ?_
        refine lv_iadd hx hb dX1_inRow_23 ?_
        refine lv_goto (tgt := 28) hx hb dX1_inRow_24 (by decide) ?_
        refine lv_topi (fun x2_2 ex2_2 => ?_)
        have h := h x2_2 ex2_2
        refine lv_istore_n (lv' := [(2, .int x2_2), (0, .ref (ad 0)), (1, .int a1), (3, .int x3)]) hx hb dX1_inRow_28 rfl hl (by decide) rfl (fun ls hl => ?_)
        refine lv_iinc (v := (x3 + 1)) (lv' := [(3, .int (x3 + 1)), (2, .int x2_2), (0, .ref (ad 0)), (1, .int a1)]) hx hb dX1_inRow_29 hl (k := 3) rfl rfl (by decide) rfl (fun ls hl => ?_)
        refine lv_goto (tgt := 4) hx hb dX1_inRow_32 (by decide) ?_
        exact hr4 _ _ ls (lv_sub hl [2, 3, 1, 0] rfl) h
set_option maxHeartbeats 4000000 in
set_option maxRecDepth 100000 in
theorem mX1_inRow (l : Launch) {dC : Nat → ClassId} {dI : Nat → Nat → Nat} {ad : Nat → Nat} {cA : Nat → ClassId} {nW : Nat} {nH : Nat} {th : Int32} {fn : Int32} {wd : Int32} {dk : Nat → Int32} {mn : Nat → Int32} {cs : Nat → Int64} {nx : Nat → Int32} {gs : Nat → Int32} {pr : Nat → Int64} {ln : Nat → Int32} {wy : Nat → Int32} {ct : Nat → Int64} {bf : Nat → Int64} {sg : Nat → Int64} {my : Nat → Int32} {a1 : Int32} {Post : Int32 → Prop} (h : wX1_inRow nW dk a1 Post) : Met l yX1_inRow wsX1_inRow ({ frames := 1, cells := 0, slots := 0, locals := 22 } : Room) (zPc (dC, dI) vwCl (tX1 cA) (wX1 ad cA nW nH th fn wd dk mn cs nx gs pr ln wy ct bf sg my) [.ref (ad 0), .int a1]) (vp_Si Post) 0 0 (fun _ => False) := by
  refine Met.ofW (cc := cX1_inRow) (maxL := 4) (ret := (some .int)) (by decide) rfl ?_
  intro p e s m args below meth c s₁ B hml hv
  obtain ⟨rfl, hP, hK⟩ := hv
  have hC : zC p s m [.ref (ad 0), .int a1].toArray meth c cX1_inRow wsX1_inRow (some .int) 4 RX1 := ⟨B.exec, B.bytes, B.returns, hml, findClass_of_methodNamed B.named, atoms_spec (ws := wsX1_inRow) B.pre, B.notSynchronized⟩
  have hC0 := hC
  obtain ⟨hx, hb, hr, hml, hown, hts, hlocks⟩ := hC
  have hl := lv_entry ([.ref (ad 0), .int a1]) (n := 4) (Nat.le_of_ble_eq_true rfl)
  rw [lg_entry_eq]
  generalize (lg_sl ([.ref (ad 0), .int a1]) ++ List.replicate (4 - (lg_sl ([.ref (ad 0), .int a1])).length) Slot.unset).toArray = ls at hl ⊢
  have hl : lv_has ls 4 [(0, .ref (ad 0)), (1, .int a1)] := hl
  unfold wX1_inRow at h
  refine lv_iconst (v := 0) hx hb dX1_inRow_0 (by decide) ?_
  refine lv_istore_n (lv' := [(2, .int 0), (0, .ref (ad 0)), (1, .int a1)]) hx hb dX1_inRow_1 rfl hl (by decide) rfl (fun ls hl => ?_)
  refine lv_iconst (v := 0) hx hb dX1_inRow_2 (by decide) ?_
  refine lv_istore_n (lv' := [(3, .int 0), (2, .int 0), (0, .ref (ad 0)), (1, .int a1)]) hx hb dX1_inRow_3 rfl hl (by decide) rfl (fun ls hl => ?_)
  obtain ⟨n_3, h⟩ := h
  exact tX1_inRow_4 hC0 hK hP n_3 _ _ ls (lv_sub hl [2, 3, 1, 0] rfl) h
theorem in_X1_mostInRow : ∀ w ∈ wsX10, w ∈ wsX1_mostInRow := by decide +kernel
set_option maxHeartbeats 4000000 in
set_option maxRecDepth 100000 in
theorem tX1_mostInRow_4 {p : Program} {l : Launch} {e : Env} {s : State} {m : MethodId} {args : Array Value} {below : List Frame} {meth : Method} {c : Code} {dC : Nat → ClassId} {dI : Nat → Nat → Nat} {ad : Nat → Nat} {cA : Nat → ClassId} {nW : Nat} {nH : Nat} {th : Int32} {fn : Int32} {wd : Int32} {dk : Nat → Int32} {mn : Nat → Int32} {cs : Nat → Int64} {nx : Nat → Int32} {gs : Nat → Int32} {pr : Nat → Int64} {ln : Nat → Int32} {wy : Nat → Int32} {ct : Nat → Int64} {bf : Nat → Int64} {sg : Nat → Int64} {my : Nat → Int32} {Post : Int32 → Prop} (hC : zC p s m args meth c cX1_mostInRow wsX1_mostInRow (some .int) 3 RX1) (hK : va_K (dC, dI) vwCl (tX1 cA) s) (hP : va_P (dC, dI) vwCl (wX1 ad cA nW nH th fn wd dk mn cs nx gs pr ln wy ct bf sg my) s.heap) : ∀ (n : Nat), ∀ (x1 : Int32) (x2 : Int32) (ls : Array Slot), lv_has ls 3 [(0, .ref (ad 0)), (1, .int x1), (2, .int x2)] → lX1_mostInRow_4 nW nH dk Post n x1 x2 → W p l e ({ frames := 2, cells := 0, slots := 0, locals := 45 } : Room) s m args below meth c s.heap [] 0 0 (MQ below (vp_Si Post) args s 0 0 (fun _ => False)) (F0 m 4 ls []) := by
  have hC0 := hC
  obtain ⟨hx, hb, hr, hml, hown, hts, hlocks⟩ := hC
  intro n
  induction n with
  | zero =>
    intro x1 x2 ls hl h
    exact h.elim
  | succ n hr4 =>
    intro x1 x2 ls hl h
    have h : bX1_mostInRow_4 nW nH dk Post (lX1_mostInRow_4 nW nH dk Post n) x1 x2 := h
    unfold bX1_mostInRow_4 at h
    refine lv_iload_n hx hb dX1_mostInRow_4 rfl (lv_at hl 2 rfl) ?_
    refine lv_aload_n hx hb dX1_mostInRow_5 rfl (lv_at hl 0 rfl) ?_
    refine va_get (D := (dC, dI)) (ci := 2) (v := .int (nI nH)) (C := RX1) (T := TX1) (N := 17) hx hb hts in_X1_mostInRow hown hK hP 0 rfl rfl 2 (by decide) (hts (.fieldLink RX1 52 "SignCutterModel" "height" "I") (by decide +kernel)) (fun _ h9 => h9) rfl dX1_mostInRow_6 ?_
    refine lv_icmp_ge (tgt := 37) hx hb dX1_mostInRow_9 (by decide) (fun c => ?_) (fun c => ?_)
    · have h := h.1 c
      refine lv_iload_n hx hb dX1_mostInRow_37 rfl (lv_at hl 1 rfl) ?_
      exact W.iret (v := x1) hx hb hr (fun t ht hW => ⟨_, rfl, h, ht⟩) (fun q hq => absurd hq List.not_mem_nil) dX1_mostInRow_38
    · have h := h.2 c
      refine lv_aload_n hx hb dX1_mostInRow_12 rfl (lv_at hl 0 rfl) ?_
      refine lv_iload_n hx hb dX1_mostInRow_13 rfl (lv_at hl 2 rfl) ?_
      refine z_cVi (ci := 2) (As := [.int x2]) (rest := []) ⟨hx, hb, hml, hown, hts⟩ (mX1_inRow l h) (cwV 1 hts gX1_mostInRow_X1_inRow rfl rfl rfl (by decide +kernel) ⟨Nat.le_of_ble_eq_true rfl, Nat.le_of_ble_eq_true rfl⟩) hK hP 0 rfl rfl rfl rfl hl.1 rfl (Nat.le_of_ble_eq_true rfl) dX1_mostInRow_14 ⟨Nat.le_of_ble_eq_true rfl, Nat.le_of_ble_eq_true rfl⟩ (fun r_1 h => ?_)
      refine lv_iload_n hx hb dX1_mostInRow_17 rfl (lv_at hl 1 rfl) ?_
      refine lv_icmp_le (tgt := 29) hx hb dX1_mostInRow_18 (by decide) (fun c => ?_) (fun c => ?_)
      · have h := h.1 c
        refine lv_iload_n hx hb dX1_mostInRow_29 rfl (lv_at hl 1 rfl) ?_
        refine lv_istore_n (lv' := [(1, .int x1), (0, .ref (ad 0)), (2, .int x2)]) hx hb dX1_mostInRow_30 rfl hl (by decide) rfl (fun ls hl => ?_)
        refine lv_iinc (v := (x2 + 1)) (lv' := [(2, .int (x2 + 1)), (1, .int x1), (0, .ref (ad 0))]) hx hb dX1_mostInRow_31 hl (k := 2) rfl rfl (by decide) rfl (fun ls hl => ?_)
        refine lv_goto (tgt := 4) hx hb dX1_mostInRow_34 (by decide) ?_
        exact hr4 _ _ ls (lv_sub hl [2, 1, 0] rfl) h
      · have h := h.2 c
        refine lv_aload_n hx hb dX1_mostInRow_21 rfl (lv_at hl 0 rfl) ?_
        refine lv_iload_n hx hb dX1_mostInRow_22 rfl (lv_at hl 2 rfl) ?_
        refine z_cVi (ci := 2) (As := [.int x2]) (rest := []) ⟨hx, hb, hml, hown, hts⟩ (mX1_inRow l h) (cwV 1 hts gX1_mostInRow_X1_inRow rfl rfl rfl (by decide +kernel) ⟨Nat.le_of_ble_eq_true rfl, Nat.le_of_ble_eq_true rfl⟩) hK hP 0 rfl rfl rfl rfl hl.1 rfl (Nat.le_of_ble_eq_true rfl) dX1_mostInRow_23 ⟨Nat.le_of_ble_eq_true rfl, Nat.le_of_ble_eq_true rfl⟩ (fun r_2 h => ?_)
        refine lv_goto (tgt := 30) hx hb dX1_mostInRow_26 (by decide) ?_
        refine lv_istore_n (lv' := [(1, .int r_2), (0, .ref (ad 0)), (2, .int x2)]) hx hb dX1_mostInRow_30 rfl hl (by decide) rfl (fun ls hl => ?_)
        refine lv_iinc (v := (x2 + 1)) (lv' := [(2, .int (x2 + 1)), (1, .int r_2), (0, .ref (ad 0))]) hx hb dX1_mostInRow_31 hl (k := 2) rfl rfl (by decide) rfl (fun ls hl => ?_)
        refine lv_goto (tgt := 4) hx hb dX1_mostInRow_34 (by decide) ?_
        exact hr4 _ _ ls (lv_sub hl [2, 1, 0] rfl) h
set_option maxHeartbeats 4000000 in
set_option maxRecDepth 100000 in
theorem mX1_mostInRow (l : Launch) {dC : Nat → ClassId} {dI : Nat → Nat → Nat} {ad : Nat → Nat} {cA : Nat → ClassId} {nW : Nat} {nH : Nat} {th : Int32} {fn : Int32} {wd : Int32} {dk : Nat → Int32} {mn : Nat → Int32} {cs : Nat → Int64} {nx : Nat → Int32} {gs : Nat → Int32} {pr : Nat → Int64} {ln : Nat → Int32} {wy : Nat → Int32} {ct : Nat → Int64} {bf : Nat → Int64} {sg : Nat → Int64} {my : Nat → Int32} {Post : Int32 → Prop} (h : wX1_mostInRow nW nH dk Post) : Met l yX1_mostInRow wsX1_mostInRow ({ frames := 2, cells := 0, slots := 0, locals := 45 } : Room) (zPc (dC, dI) vwCl (tX1 cA) (wX1 ad cA nW nH th fn wd dk mn cs nx gs pr ln wy ct bf sg my) [.ref (ad 0)]) (vp_Si Post) 0 0 (fun _ => False) := by
  refine Met.ofW (cc := cX1_mostInRow) (maxL := 3) (ret := (some .int)) (by decide) rfl ?_
  intro p e s m args below meth c s₁ B hml hv
  obtain ⟨rfl, hP, hK⟩ := hv
  have hC : zC p s m [.ref (ad 0)].toArray meth c cX1_mostInRow wsX1_mostInRow (some .int) 3 RX1 := ⟨B.exec, B.bytes, B.returns, hml, findClass_of_methodNamed B.named, atoms_spec (ws := wsX1_mostInRow) B.pre, B.notSynchronized⟩
  have hC0 := hC
  obtain ⟨hx, hb, hr, hml, hown, hts, hlocks⟩ := hC
  have hl := lv_entry ([.ref (ad 0)]) (n := 3) (Nat.le_of_ble_eq_true rfl)
  rw [lg_entry_eq]
  generalize (lg_sl ([.ref (ad 0)]) ++ List.replicate (3 - (lg_sl ([.ref (ad 0)])).length) Slot.unset).toArray = ls at hl ⊢
  have hl : lv_has ls 3 [(0, .ref (ad 0))] := hl
  unfold wX1_mostInRow at h
  refine lv_iconst (v := 0) hx hb dX1_mostInRow_0 (by decide) ?_
  refine lv_istore_n (lv' := [(1, .int 0), (0, .ref (ad 0))]) hx hb dX1_mostInRow_1 rfl hl (by decide) rfl (fun ls hl => ?_)
  refine lv_iconst (v := 0) hx hb dX1_mostInRow_2 (by decide) ?_
  refine lv_istore_n (lv' := [(2, .int 0), (1, .int 0), (0, .ref (ad 0))]) hx hb dX1_mostInRow_3 rfl hl (by decide) rfl (fun ls hl => ?_)
  obtain ⟨n_3, h⟩ := h
  exact tX1_mostInRow_4 hC0 hK hP n_3 _ _ ls (lv_sub hl [2, 1, 0] rfl) h
theorem in_X1_middle : ∀ w ∈ wsX10, w ∈ wsX1_middle := by decide +kernel
set_option maxHeartbeats 4000000 in
set_option maxRecDepth 100000 in
theorem tX1_middle_7 {p : Program} {l : Launch} {e : Env} {s : State} {m : MethodId} {args : Array Value} {below : List Frame} {meth : Method} {c : Code} {dC : Nat → ClassId} {dI : Nat → Nat → Nat} {ad : Nat → Nat} {cA : Nat → ClassId} {nW : Nat} {nH : Nat} {th : Int32} {fn : Int32} {wd : Int32} {dk : Nat → Int32} {mn : Nat → Int32} {cs : Nat → Int64} {nx : Nat → Int32} {gs : Nat → Int32} {pr : Nat → Int64} {ln : Nat → Int32} {wy : Nat → Int32} {ct : Nat → Int64} {bf : Nat → Int64} {sg : Nat → Int64} {my : Nat → Int32} {Post : Int32 → Prop} (hC : zC p s m args meth c cX1_middle wsX1_middle (some .int) 3 RX1) (hK : va_K (dC, dI) vwCl (tX1 cA) s) (hP : va_P (dC, dI) vwCl (wX1 ad cA nW nH th fn wd dk mn cs nx gs pr ln wy ct bf sg my) s.heap) : ∀ (n : Nat), ∀ (x1 : Int32) (x2 : Int32) (ls : Array Slot), lv_has ls 3 [(0, .ref (ad 0)), (1, .int x1), (2, .int x2)] → lX1_middle_7 nW nH dk Post n x1 x2 → W p l e ({ frames := 3, cells := 0, slots := 0, locals := 67 } : Room) s m args below meth c s.heap [] 0 0 (MQ below (vp_Si Post) args s 0 0 (fun _ => False)) (F0 m 7 ls []) := by
  have hC0 := hC
  obtain ⟨hx, hb, hr, hml, hown, hts, hlocks⟩ := hC
  intro n
  induction n with
  | zero =>
    intro x1 x2 ls hl h
    exact h.elim
  | succ n hr7 =>
    intro x1 x2 ls hl h
    have h : bX1_middle_7 nW nH dk Post (lX1_middle_7 nW nH dk Post n) x1 x2 := h
    unfold bX1_middle_7 at h
    refine lv_iconst (v := 2) hx hb dX1_middle_7 (by decide) ?_
    refine lv_aload_n hx hb dX1_middle_8 rfl (lv_at hl 0 rfl) ?_
    refine lv_iload_n hx hb dX1_middle_9 rfl (lv_at hl 2 rfl) ?_
    refine z_cVi (ci := 2) (As := [.int x2]) (rest := [.int 2]) ⟨hx, hb, hml, hown, hts⟩ (mX1_inRow l h) (cwV 1 hts gX1_middle_X1_inRow rfl rfl rfl (by decide +kernel) ⟨Nat.le_of_ble_eq_true rfl, Nat.le_of_ble_eq_true rfl⟩) hK hP 0 rfl rfl rfl rfl hl.1 rfl (Nat.le_of_ble_eq_true rfl) dX1_middle_10 ⟨Nat.le_of_ble_eq_true rfl, Nat.le_of_ble_eq_true rfl⟩ (fun r_2 h => ?_)
    refine lv_imul hx hb dX1_middle_13 ?_
    refine lv_iload_n hx hb dX1_middle_14 rfl (lv_at hl 1 rfl) ?_
    refine lv_icmp_ge (tgt := 24) hx hb dX1_middle_15 (by decide) (fun c => ?_) (fun c => ?_)
    · have h := h.1 c
      refine lv_iload_n hx hb dX1_middle_24 rfl (lv_at hl 2 rfl) ?_
      exact W.iret (v := x2) hx hb hr (fun t ht hW => ⟨_, rfl, h, ht⟩) (fun q hq => absurd hq List.not_mem_nil) dX1_middle_25
    · have h := h.2 c
      refine lv_iinc (v := (x2 + 1)) (lv' := [(2, .int (x2 + 1)), (0, .ref (ad 0)), (1, .int x1)]) hx hb dX1_middle_18 hl (k := 2) rfl rfl (by decide) rfl (fun ls hl => ?_)
      refine lv_goto (tgt := 7) hx hb dX1_middle_21 (by decide) ?_
      exact hr7 _ _ ls (lv_sub hl [1, 2, 0] rfl) h
set_option maxHeartbeats 4000000 in
set_option maxRecDepth 100000 in
theorem mX1_middle (l : Launch) {dC : Nat → ClassId} {dI : Nat → Nat → Nat} {ad : Nat → Nat} {cA : Nat → ClassId} {nW : Nat} {nH : Nat} {th : Int32} {fn : Int32} {wd : Int32} {dk : Nat → Int32} {mn : Nat → Int32} {cs : Nat → Int64} {nx : Nat → Int32} {gs : Nat → Int32} {pr : Nat → Int64} {ln : Nat → Int32} {wy : Nat → Int32} {ct : Nat → Int64} {bf : Nat → Int64} {sg : Nat → Int64} {my : Nat → Int32} {Post : Int32 → Prop} (h : wX1_middle nW nH dk Post) : Met l yX1_middle wsX1_middle ({ frames := 3, cells := 0, slots := 0, locals := 67 } : Room) (zPc (dC, dI) vwCl (tX1 cA) (wX1 ad cA nW nH th fn wd dk mn cs nx gs pr ln wy ct bf sg my) [.ref (ad 0)]) (vp_Si Post) 0 0 (fun _ => False) := by
  refine Met.ofW (cc := cX1_middle) (maxL := 3) (ret := (some .int)) (by decide) rfl ?_
  intro p e s m args below meth c s₁ B hml hv
  obtain ⟨rfl, hP, hK⟩ := hv
  have hC : zC p s m [.ref (ad 0)].toArray meth c cX1_middle wsX1_middle (some .int) 3 RX1 := ⟨B.exec, B.bytes, B.returns, hml, findClass_of_methodNamed B.named, atoms_spec (ws := wsX1_middle) B.pre, B.notSynchronized⟩
  have hC0 := hC
  obtain ⟨hx, hb, hr, hml, hown, hts, hlocks⟩ := hC
  have hl := lv_entry ([.ref (ad 0)]) (n := 3) (Nat.le_of_ble_eq_true rfl)
  rw [lg_entry_eq]
  generalize (lg_sl ([.ref (ad 0)]) ++ List.replicate (3 - (lg_sl ([.ref (ad 0)])).length) Slot.unset).toArray = ls at hl ⊢
  have hl : lv_has ls 3 [(0, .ref (ad 0))] := hl
  unfold wX1_middle at h
  refine lv_aload_n hx hb dX1_middle_0 rfl (lv_at hl 0 rfl) ?_
  refine z_cVi (ci := 2) (As := []) (rest := []) ⟨hx, hb, hml, hown, hts⟩ (mX1_mostInRow l h) (cwV 0 hts gX1_middle_X1_mostInRow rfl rfl rfl (by decide +kernel) ⟨Nat.le_of_ble_eq_true rfl, Nat.le_of_ble_eq_true rfl⟩) hK hP 0 rfl rfl rfl rfl hl.1 rfl (Nat.le_of_ble_eq_true rfl) dX1_middle_1 ⟨Nat.le_of_ble_eq_true rfl, Nat.le_of_ble_eq_true rfl⟩ (fun r_1 h => ?_)
  refine lv_istore_n (lv' := [(1, .int r_1), (0, .ref (ad 0))]) hx hb dX1_middle_4 rfl hl (by decide) rfl (fun ls hl => ?_)
  refine lv_iconst (v := 0) hx hb dX1_middle_5 (by decide) ?_
  refine lv_istore_n (lv' := [(2, .int 0), (1, .int r_1), (0, .ref (ad 0))]) hx hb dX1_middle_6 rfl hl (by decide) rfl (fun ls hl => ?_)
  obtain ⟨n_3, h⟩ := h
  exact tX1_middle_7 hC0 hK hP n_3 _ _ ls (lv_sub hl [2, 1, 0] rfl) h
theorem in_X1_baseline : ∀ w ∈ wsX10, w ∈ wsX1_baseline := by decide +kernel
set_option maxHeartbeats 4000000 in
set_option maxRecDepth 100000 in
theorem tX1_baseline_12 {p : Program} {l : Launch} {e : Env} {s : State} {m : MethodId} {args : Array Value} {below : List Frame} {meth : Method} {c : Code} {dC : Nat → ClassId} {dI : Nat → Nat → Nat} {ad : Nat → Nat} {cA : Nat → ClassId} {nW : Nat} {nH : Nat} {th : Int32} {fn : Int32} {wd : Int32} {dk : Nat → Int32} {mn : Nat → Int32} {cs : Nat → Int64} {nx : Nat → Int32} {gs : Nat → Int32} {pr : Nat → Int64} {ln : Nat → Int32} {wy : Nat → Int32} {ct : Nat → Int64} {bf : Nat → Int64} {sg : Nat → Int64} {my : Nat → Int32} {Post : Int32 → Prop} (hC : zC p s m args meth c cX1_baseline wsX1_baseline (some .int) 3 RX1) (hK : va_K (dC, dI) vwCl (tX1 cA) s) (hP : va_P (dC, dI) vwCl (wX1 ad cA nW nH th fn wd dk mn cs nx gs pr ln wy ct bf sg my) s.heap) : ∀ (n : Nat), ∀ (x1 : Int32) (x2 : Int32) (ls : Array Slot), lv_has ls 3 [(0, .ref (ad 0)), (1, .int x1), (2, .int x2)] → lX1_baseline_12 nW nH dk Post n x1 x2 → W p l e ({ frames := 3, cells := 0, slots := 0, locals := 67 } : Room) s m args below meth c s.heap [] 0 0 (MQ below (vp_Si Post) args s 0 0 (fun _ => False)) (F0 m 12 ls []) := by
  have hC0 := hC
  obtain ⟨hx, hb, hr, hml, hown, hts, hlocks⟩ := hC
  intro n
  induction n with
  | zero =>
    intro x1 x2 ls hl h
    exact h.elim
  | succ n hr12 =>
    intro x1 x2 ls hl h
    have h : bX1_baseline_12 nW nH dk Post (lX1_baseline_12 nW nH dk Post n) x1 x2 := h
    unfold bX1_baseline_12 at h
    refine lv_iconst (v := 2) hx hb dX1_baseline_12 (by decide) ?_
    refine lv_aload_n hx hb dX1_baseline_13 rfl (lv_at hl 0 rfl) ?_
    refine lv_iload_n hx hb dX1_baseline_14 rfl (lv_at hl 2 rfl) ?_
    refine z_cVi (ci := 2) (As := [.int x2]) (rest := [.int 2]) ⟨hx, hb, hml, hown, hts⟩ (mX1_inRow l h) (cwV 1 hts gX1_baseline_X1_inRow rfl rfl rfl (by decide +kernel) ⟨Nat.le_of_ble_eq_true rfl, Nat.le_of_ble_eq_true rfl⟩) hK hP 0 rfl rfl rfl rfl hl.1 rfl (Nat.le_of_ble_eq_true rfl) dX1_baseline_15 ⟨Nat.le_of_ble_eq_true rfl, Nat.le_of_ble_eq_true rfl⟩ (fun r_3 h => ?_)
    refine lv_imul hx hb dX1_baseline_18 ?_
    refine lv_iload_n hx hb dX1_baseline_19 rfl (lv_at hl 1 rfl) ?_
    refine lv_icmp_ge (tgt := 29) hx hb dX1_baseline_20 (by decide) (fun c => ?_) (fun c => ?_)
    · have h := h.1 c
      refine lv_iload_n hx hb dX1_baseline_29 rfl (lv_at hl 2 rfl) ?_
      exact W.iret (v := x2) hx hb hr (fun t ht hW => ⟨_, rfl, h, ht⟩) (fun q hq => absurd hq List.not_mem_nil) dX1_baseline_30
    · have h := h.2 c
      refine lv_iinc (v := (x2 + (-1))) (lv' := [(2, .int (x2 + (-1))), (0, .ref (ad 0)), (1, .int x1)]) hx hb dX1_baseline_23 hl (k := 2) rfl rfl (by decide) rfl (fun ls hl => ?_)
      refine lv_goto (tgt := 12) hx hb dX1_baseline_26 (by decide) ?_
      exact hr12 _ _ ls (lv_sub hl [1, 2, 0] rfl) h
set_option maxHeartbeats 4000000 in
set_option maxRecDepth 100000 in
theorem mX1_baseline (l : Launch) {dC : Nat → ClassId} {dI : Nat → Nat → Nat} {ad : Nat → Nat} {cA : Nat → ClassId} {nW : Nat} {nH : Nat} {th : Int32} {fn : Int32} {wd : Int32} {dk : Nat → Int32} {mn : Nat → Int32} {cs : Nat → Int64} {nx : Nat → Int32} {gs : Nat → Int32} {pr : Nat → Int64} {ln : Nat → Int32} {wy : Nat → Int32} {ct : Nat → Int64} {bf : Nat → Int64} {sg : Nat → Int64} {my : Nat → Int32} {Post : Int32 → Prop} (h : wX1_baseline nW nH dk Post) : Met l yX1_baseline wsX1_baseline ({ frames := 3, cells := 0, slots := 0, locals := 67 } : Room) (zPc (dC, dI) vwCl (tX1 cA) (wX1 ad cA nW nH th fn wd dk mn cs nx gs pr ln wy ct bf sg my) [.ref (ad 0)]) (vp_Si Post) 0 0 (fun _ => False) := by
  refine Met.ofW (cc := cX1_baseline) (maxL := 3) (ret := (some .int)) (by decide) rfl ?_
  intro p e s m args below meth c s₁ B hml hv
  obtain ⟨rfl, hP, hK⟩ := hv
  have hC : zC p s m [.ref (ad 0)].toArray meth c cX1_baseline wsX1_baseline (some .int) 3 RX1 := ⟨B.exec, B.bytes, B.returns, hml, findClass_of_methodNamed B.named, atoms_spec (ws := wsX1_baseline) B.pre, B.notSynchronized⟩
  have hC0 := hC
  obtain ⟨hx, hb, hr, hml, hown, hts, hlocks⟩ := hC
  have hl := lv_entry ([.ref (ad 0)]) (n := 3) (Nat.le_of_ble_eq_true rfl)
  rw [lg_entry_eq]
  generalize (lg_sl ([.ref (ad 0)]) ++ List.replicate (3 - (lg_sl ([.ref (ad 0)])).length) Slot.unset).toArray = ls at hl ⊢
  have hl : lv_has ls 3 [(0, .ref (ad 0))] := hl
  unfold wX1_baseline at h
  refine lv_aload_n hx hb dX1_baseline_0 rfl (lv_at hl 0 rfl) ?_
  refine z_cVi (ci := 2) (As := []) (rest := []) ⟨hx, hb, hml, hown, hts⟩ (mX1_mostInRow l h) (cwV 0 hts gX1_baseline_X1_mostInRow rfl rfl rfl (by decide +kernel) ⟨Nat.le_of_ble_eq_true rfl, Nat.le_of_ble_eq_true rfl⟩) hK hP 0 rfl rfl rfl rfl hl.1 rfl (Nat.le_of_ble_eq_true rfl) dX1_baseline_1 ⟨Nat.le_of_ble_eq_true rfl, Nat.le_of_ble_eq_true rfl⟩ (fun r_1 h => ?_)
  refine lv_istore_n (lv' := [(1, .int r_1), (0, .ref (ad 0))]) hx hb dX1_baseline_4 rfl hl (by decide) rfl (fun ls hl => ?_)
  refine lv_aload_n hx hb dX1_baseline_5 rfl (lv_at hl 1 rfl) ?_
  refine va_get (D := (dC, dI)) (ci := 2) (v := .int (nI nH)) (C := RX1) (T := TX1) (N := 17) hx hb hts in_X1_baseline hown hK hP 0 rfl rfl 2 (by decide) (hts (.fieldLink RX1 52 "SignCutterModel" "height" "I") (by decide +kernel)) (fun _ h9 => h9) rfl dX1_baseline_6 ?_
  refine lv_iconst (v := 1) hx hb dX1_baseline_9 (by decide) ?_
  refine lv_isub hx hb dX1_baseline_10 ?_
  refine lv_topi (fun x2_2 ex2_2 => ?_)
  have h := h x2_2 ex2_2
  refine lv_istore_n (lv' := [(2, .int x2_2), (1, .int r_1), (0, .ref (ad 0))]) hx hb dX1_baseline_11 rfl hl (by decide) rfl (fun ls hl => ?_)
  obtain ⟨n_4, h⟩ := h
  exact tX1_baseline_12 hC0 hK hP n_4 _ _ ls (lv_sub hl [2, 1, 0] rfl) h
theorem in_X1_from : ∀ w ∈ wsX10, w ∈ wsX1_from := by decide +kernel
set_option maxHeartbeats 4000000 in
set_option maxRecDepth 100000 in
theorem tX1_from_2 {p : Program} {l : Launch} {e : Env} {s : State} {m : MethodId} {args : Array Value} {below : List Frame} {meth : Method} {c : Code} {dC : Nat → ClassId} {dI : Nat → Nat → Nat} {ad : Nat → Nat} {cA : Nat → ClassId} {nW : Nat} {nH : Nat} {th : Int32} {fn : Int32} {wd : Int32} {dk : Nat → Int32} {mn : Nat → Int32} {cs : Nat → Int64} {nx : Nat → Int32} {gs : Nat → Int32} {pr : Nat → Int64} {ln : Nat → Int32} {wy : Nat → Int32} {ct : Nat → Int64} {bf : Nat → Int64} {sg : Nat → Int64} {my : Nat → Int32} {Post : Int32 → Prop} (hC : zC p s m args meth c cX1_from wsX1_from (some .int) 2 RX1) (hK : va_K (dC, dI) vwCl (tX1 cA) s) (hP : va_P (dC, dI) vwCl (wX1 ad cA nW nH th fn wd dk mn cs nx gs pr ln wy ct bf sg my) s.heap) : ∀ (n : Nat), ∀ (x1 : Int32) (ls : Array Slot), lv_has ls 2 [(0, .ref (ad 0)), (1, .int x1)] → lX1_from_2 nW nH dk Post n x1 → W p l e ({ frames := 2, cells := 0, slots := 0, locals := 45 } : Room) s m args below meth c s.heap [] 0 0 (MQ below (vp_Si Post) args s 0 0 (fun _ => False)) (F0 m 2 ls []) := by
  have hC0 := hC
  obtain ⟨hx, hb, hr, hml, hown, hts, hlocks⟩ := hC
  intro n
  induction n with
  | zero =>
    intro x1 ls hl h
    exact h.elim
  | succ n hr2 =>
    intro x1 ls hl h
    have h : bX1_from_2 nW nH dk Post (lX1_from_2 nW nH dk Post n) x1 := h
    unfold bX1_from_2 at h
    refine lv_aload_n hx hb dX1_from_2 rfl (lv_at hl 0 rfl) ?_
    refine lv_iload_n hx hb dX1_from_3 rfl (lv_at hl 1 rfl) ?_
    refine z_cVi (ci := 2) (As := [.int x1]) (rest := []) ⟨hx, hb, hml, hown, hts⟩ (mX1_hasDark l h) (cwV 1 hts gX1_from_X1_hasDark rfl rfl rfl (by decide +kernel) ⟨Nat.le_of_ble_eq_true rfl, Nat.le_of_ble_eq_true rfl⟩) hK hP 0 rfl rfl rfl rfl hl.1 rfl (Nat.le_of_ble_eq_true rfl) dX1_from_4 ⟨Nat.le_of_ble_eq_true rfl, Nat.le_of_ble_eq_true rfl⟩ (fun r_1 h => ?_)
    refine lv_if_ne (tgt := 16) hx hb dX1_from_7 (by decide) (fun c => ?_) (fun c => ?_)
    · have h := h.2 c
      refine lv_iload_n hx hb dX1_from_16 rfl (lv_at hl 1 rfl) ?_
      exact W.iret (v := x1) hx hb hr (fun t ht hW => ⟨_, rfl, h, ht⟩) (fun q hq => absurd hq List.not_mem_nil) dX1_from_17
    · have h := h.1 c
      refine lv_iinc (v := (x1 + 1)) (lv' := [(1, .int (x1 + 1)), (0, .ref (ad 0))]) hx hb dX1_from_10 hl (k := 1) rfl rfl (by decide) rfl (fun ls hl => ?_)
      refine lv_goto (tgt := 2) hx hb dX1_from_13 (by decide) ?_
      exact hr2 _ ls (lv_sub hl [1, 0] rfl) h
set_option maxHeartbeats 4000000 in
set_option maxRecDepth 100000 in
theorem mX1_from (l : Launch) {dC : Nat → ClassId} {dI : Nat → Nat → Nat} {ad : Nat → Nat} {cA : Nat → ClassId} {nW : Nat} {nH : Nat} {th : Int32} {fn : Int32} {wd : Int32} {dk : Nat → Int32} {mn : Nat → Int32} {cs : Nat → Int64} {nx : Nat → Int32} {gs : Nat → Int32} {pr : Nat → Int64} {ln : Nat → Int32} {wy : Nat → Int32} {ct : Nat → Int64} {bf : Nat → Int64} {sg : Nat → Int64} {my : Nat → Int32} {Post : Int32 → Prop} (h : wX1_from nW nH dk Post) : Met l yX1_from wsX1_from ({ frames := 2, cells := 0, slots := 0, locals := 45 } : Room) (zPc (dC, dI) vwCl (tX1 cA) (wX1 ad cA nW nH th fn wd dk mn cs nx gs pr ln wy ct bf sg my) [.ref (ad 0)]) (vp_Si Post) 0 0 (fun _ => False) := by
  refine Met.ofW (cc := cX1_from) (maxL := 2) (ret := (some .int)) (by decide) rfl ?_
  intro p e s m args below meth c s₁ B hml hv
  obtain ⟨rfl, hP, hK⟩ := hv
  have hC : zC p s m [.ref (ad 0)].toArray meth c cX1_from wsX1_from (some .int) 2 RX1 := ⟨B.exec, B.bytes, B.returns, hml, findClass_of_methodNamed B.named, atoms_spec (ws := wsX1_from) B.pre, B.notSynchronized⟩
  have hC0 := hC
  obtain ⟨hx, hb, hr, hml, hown, hts, hlocks⟩ := hC
  have hl := lv_entry ([.ref (ad 0)]) (n := 2) (Nat.le_of_ble_eq_true rfl)
  rw [lg_entry_eq]
  generalize (lg_sl ([.ref (ad 0)]) ++ List.replicate (2 - (lg_sl ([.ref (ad 0)])).length) Slot.unset).toArray = ls at hl ⊢
  have hl : lv_has ls 2 [(0, .ref (ad 0))] := hl
  unfold wX1_from at h
  refine lv_iconst (v := 0) hx hb dX1_from_0 (by decide) ?_
  refine lv_istore_n (lv' := [(1, .int 0), (0, .ref (ad 0))]) hx hb dX1_from_1 rfl hl (by decide) rfl (fun ls hl => ?_)
  obtain ⟨n_2, h⟩ := h
  exact tX1_from_2 hC0 hK hP n_2 _ ls (lv_sub hl [1, 0] rfl) h
theorem in_X1_until : ∀ w ∈ wsX10, w ∈ wsX1_until := by decide +kernel
set_option maxHeartbeats 4000000 in
set_option maxRecDepth 100000 in
theorem tX1_until_5 {p : Program} {l : Launch} {e : Env} {s : State} {m : MethodId} {args : Array Value} {below : List Frame} {meth : Method} {c : Code} {dC : Nat → ClassId} {dI : Nat → Nat → Nat} {ad : Nat → Nat} {cA : Nat → ClassId} {nW : Nat} {nH : Nat} {th : Int32} {fn : Int32} {wd : Int32} {dk : Nat → Int32} {mn : Nat → Int32} {cs : Nat → Int64} {nx : Nat → Int32} {gs : Nat → Int32} {pr : Nat → Int64} {ln : Nat → Int32} {wy : Nat → Int32} {ct : Nat → Int64} {bf : Nat → Int64} {sg : Nat → Int64} {my : Nat → Int32} {Post : Int32 → Prop} (hC : zC p s m args meth c cX1_until wsX1_until (some .int) 2 RX1) (hK : va_K (dC, dI) vwCl (tX1 cA) s) (hP : va_P (dC, dI) vwCl (wX1 ad cA nW nH th fn wd dk mn cs nx gs pr ln wy ct bf sg my) s.heap) : ∀ (n : Nat), ∀ (x1 : Int32) (ls : Array Slot), lv_has ls 2 [(0, .ref (ad 0)), (1, .int x1)] → lX1_until_5 nW nH dk Post n x1 → W p l e ({ frames := 2, cells := 0, slots := 0, locals := 45 } : Room) s m args below meth c s.heap [] 0 0 (MQ below (vp_Si Post) args s 0 0 (fun _ => False)) (F0 m 5 ls []) := by
  have hC0 := hC
  obtain ⟨hx, hb, hr, hml, hown, hts, hlocks⟩ := hC
  intro n
  induction n with
  | zero =>
    intro x1 ls hl h
    exact h.elim
  | succ n hr5 =>
    intro x1 ls hl h
    have h : bX1_until_5 nW nH dk Post (lX1_until_5 nW nH dk Post n) x1 := h
    unfold bX1_until_5 at h
    refine lv_aload_n hx hb dX1_until_5 rfl (lv_at hl 0 rfl) ?_
    refine lv_iload_n hx hb dX1_until_6 rfl (lv_at hl 1 rfl) ?_
    refine lv_iconst (v := 1) hx hb dX1_until_7 (by decide) ?_
    refine lv_isub hx hb dX1_until_8 ?_
    refine z_cVi (ci := 2) (As := [.int (x1 - 1)]) (rest := []) ⟨hx, hb, hml, hown, hts⟩ (mX1_hasDark l h) (cwV 1 hts gX1_until_X1_hasDark rfl rfl rfl (by decide +kernel) ⟨Nat.le_of_ble_eq_true rfl, Nat.le_of_ble_eq_true rfl⟩) hK hP 0 rfl rfl rfl rfl hl.1 rfl (Nat.le_of_ble_eq_true rfl) dX1_until_9 ⟨Nat.le_of_ble_eq_true rfl, Nat.le_of_ble_eq_true rfl⟩ (fun r_2 h => ?_)
    refine lv_if_ne (tgt := 21) hx hb dX1_until_12 (by decide) (fun c => ?_) (fun c => ?_)
    · have h := h.2 c
      refine lv_iload_n hx hb dX1_until_21 rfl (lv_at hl 1 rfl) ?_
      exact W.iret (v := x1) hx hb hr (fun t ht hW => ⟨_, rfl, h, ht⟩) (fun q hq => absurd hq List.not_mem_nil) dX1_until_22
    · have h := h.1 c
      refine lv_iinc (v := (x1 + (-1))) (lv' := [(1, .int (x1 + (-1))), (0, .ref (ad 0))]) hx hb dX1_until_15 hl (k := 1) rfl rfl (by decide) rfl (fun ls hl => ?_)
      refine lv_goto (tgt := 5) hx hb dX1_until_18 (by decide) ?_
      exact hr5 _ ls (lv_sub hl [1, 0] rfl) h
set_option maxHeartbeats 4000000 in
set_option maxRecDepth 100000 in
theorem mX1_until (l : Launch) {dC : Nat → ClassId} {dI : Nat → Nat → Nat} {ad : Nat → Nat} {cA : Nat → ClassId} {nW : Nat} {nH : Nat} {th : Int32} {fn : Int32} {wd : Int32} {dk : Nat → Int32} {mn : Nat → Int32} {cs : Nat → Int64} {nx : Nat → Int32} {gs : Nat → Int32} {pr : Nat → Int64} {ln : Nat → Int32} {wy : Nat → Int32} {ct : Nat → Int64} {bf : Nat → Int64} {sg : Nat → Int64} {my : Nat → Int32} {Post : Int32 → Prop} (h : wX1_until nW nH dk Post) : Met l yX1_until wsX1_until ({ frames := 2, cells := 0, slots := 0, locals := 45 } : Room) (zPc (dC, dI) vwCl (tX1 cA) (wX1 ad cA nW nH th fn wd dk mn cs nx gs pr ln wy ct bf sg my) [.ref (ad 0)]) (vp_Si Post) 0 0 (fun _ => False) := by
  refine Met.ofW (cc := cX1_until) (maxL := 2) (ret := (some .int)) (by decide) rfl ?_
  intro p e s m args below meth c s₁ B hml hv
  obtain ⟨rfl, hP, hK⟩ := hv
  have hC : zC p s m [.ref (ad 0)].toArray meth c cX1_until wsX1_until (some .int) 2 RX1 := ⟨B.exec, B.bytes, B.returns, hml, findClass_of_methodNamed B.named, atoms_spec (ws := wsX1_until) B.pre, B.notSynchronized⟩
  have hC0 := hC
  obtain ⟨hx, hb, hr, hml, hown, hts, hlocks⟩ := hC
  have hl := lv_entry ([.ref (ad 0)]) (n := 2) (Nat.le_of_ble_eq_true rfl)
  rw [lg_entry_eq]
  generalize (lg_sl ([.ref (ad 0)]) ++ List.replicate (2 - (lg_sl ([.ref (ad 0)])).length) Slot.unset).toArray = ls at hl ⊢
  have hl : lv_has ls 2 [(0, .ref (ad 0))] := hl
  unfold wX1_until at h
  refine lv_aload_n hx hb dX1_until_0 rfl (lv_at hl 0 rfl) ?_
  refine va_get (D := (dC, dI)) (ci := 2) (v := .int (nI nW)) (C := RX1) (T := TX1) (N := 17) hx hb hts in_X1_until hown hK hP 0 rfl rfl 1 (by decide) (hts (.fieldLink RX1 48 "SignCutterModel" "width" "I") (by decide +kernel)) (fun _ h9 => h9) rfl dX1_until_1 ?_
  refine lv_topi (fun x1_1 ex1_1 => ?_)
  have h := h x1_1 ex1_1
  refine lv_istore_n (lv' := [(1, .int x1_1), (0, .ref (ad 0))]) hx hb dX1_until_4 rfl hl (by decide) rfl (fun ls hl => ?_)
  obtain ⟨n_3, h⟩ := h
  exact tX1_until_5 hC0 hK hP n_3 _ ls (lv_sub hl [1, 0] rfl) h
theorem in_X1_due : ∀ w ∈ wsX10, w ∈ wsX1_due := by decide +kernel
set_option maxHeartbeats 4000000 in
set_option maxRecDepth 100000 in
theorem mX1_due (l : Launch) {dC : Nat → ClassId} {dI : Nat → Nat → Nat} {ad : Nat → Nat} {cA : Nat → ClassId} {nW : Nat} {nH : Nat} {th : Int32} {fn : Int32} {wd : Int32} {dk : Nat → Int32} {mn : Nat → Int32} {cs : Nat → Int64} {nx : Nat → Int32} {gs : Nat → Int32} {pr : Nat → Int64} {ln : Nat → Int32} {wy : Nat → Int32} {ct : Nat → Int64} {bf : Nat → Int64} {sg : Nat → Int64} {my : Nat → Int32} {Post : Int32 → Prop} (h : wX1_due nW nH dk Post) : Met l yX1_due wsX1_due ({ frames := 4, cells := 0, slots := 0, locals := 89 } : Room) (zPc (dC, dI) vwCl (tX1 cA) (wX1 ad cA nW nH th fn wd dk mn cs nx gs pr ln wy ct bf sg my) [.ref (ad 0)]) (vp_Si Post) 0 0 (fun _ => False) := by
  refine Met.ofW (cc := cX1_due) (maxL := 1) (ret := (some .int)) (by decide) rfl ?_
  intro p e s m args below meth c s₁ B hml hv
  obtain ⟨rfl, hP, hK⟩ := hv
  have hC : zC p s m [.ref (ad 0)].toArray meth c cX1_due wsX1_due (some .int) 1 RX1 := ⟨B.exec, B.bytes, B.returns, hml, findClass_of_methodNamed B.named, atoms_spec (ws := wsX1_due) B.pre, B.notSynchronized⟩
  have hC0 := hC
  obtain ⟨hx, hb, hr, hml, hown, hts, hlocks⟩ := hC
  have hl := lv_entry ([.ref (ad 0)]) (n := 1) (Nat.le_of_ble_eq_true rfl)
  rw [lg_entry_eq]
  generalize (lg_sl ([.ref (ad 0)]) ++ List.replicate (1 - (lg_sl ([.ref (ad 0)])).length) Slot.unset).toArray = ls at hl ⊢
  have hl : lv_has ls 1 [(0, .ref (ad 0))] := hl
  unfold wX1_due at h
  refine lv_iconst (v := 3) hx hb dX1_due_0 (by decide) ?_
  refine lv_aload_n hx hb dX1_due_1 rfl (lv_at hl 0 rfl) ?_
  refine z_cVi (ci := 2) (As := []) (rest := [.int 3]) ⟨hx, hb, hml, hown, hts⟩ (mX1_baseline l h) (cwV 0 hts gX1_due_X1_baseline rfl rfl rfl (by decide +kernel) ⟨Nat.le_of_ble_eq_true rfl, Nat.le_of_ble_eq_true rfl⟩) hK hP 0 rfl rfl rfl rfl hl.1 rfl (Nat.le_of_ble_eq_true rfl) dX1_due_2 ⟨Nat.le_of_ble_eq_true rfl, Nat.le_of_ble_eq_true rfl⟩ (fun r_1 h => ?_)
  refine lv_aload_n hx hb dX1_due_5 rfl (lv_at hl 0 rfl) ?_
  refine z_cVi (ci := 2) (As := []) (rest := [.int r_1, .int 3]) ⟨hx, hb, hml, hown, hts⟩ (mX1_middle l h) (cwV 0 hts gX1_due_X1_middle rfl rfl rfl (by decide +kernel) ⟨Nat.le_of_ble_eq_true rfl, Nat.le_of_ble_eq_true rfl⟩) hK hP 0 rfl rfl rfl rfl hl.1 rfl (Nat.le_of_ble_eq_true rfl) dX1_due_6 ⟨Nat.le_of_ble_eq_true rfl, Nat.le_of_ble_eq_true rfl⟩ (fun r_2 h => ?_)
  refine lv_isub hx hb dX1_due_9 ?_
  refine lv_imul hx hb dX1_due_10 ?_
  refine lv_iconst (v := 4) hx hb dX1_due_11 (by decide) ?_
  refine lv_idiv hx hb dX1_due_12 (by decide) ?_
  refine lv_iconst (v := 2) hx hb dX1_due_13 (by decide) ?_
  refine lv_iadd hx hb dX1_due_14 ?_
  exact W.iret (v := (((3 * (r_1 - r_2)) / 4) + 2)) hx hb hr (fun t ht hW => ⟨_, rfl, h, ht⟩) (fun q hq => absurd hq List.not_mem_nil) dX1_due_15
theorem in_X1_touch : ∀ w ∈ wsX10, w ∈ wsX1_touch := by decide +kernel
set_option maxHeartbeats 4000000 in
set_option maxRecDepth 100000 in
theorem tX1_touch_4 {p : Program} {l : Launch} {e : Env} {s : State} {m : MethodId} {args : Array Value} {below : List Frame} {meth : Method} {c : Code} {dC : Nat → ClassId} {dI : Nat → Nat → Nat} {ad : Nat → Nat} {cA : Nat → ClassId} {nW : Nat} {nH : Nat} {th : Int32} {fn : Int32} {wd : Int32} {dk : Nat → Int32} {mn : Nat → Int32} {cs : Nat → Int64} {nx : Nat → Int32} {gs : Nat → Int32} {pr : Nat → Int64} {ln : Nat → Int32} {wy : Nat → Int32} {ct : Nat → Int64} {bf : Nat → Int64} {sg : Nat → Int64} {my : Nat → Int32} {a1 : Int32} {Post : Int32 → Prop} (hC : zC p s m args meth c cX1_touch wsX1_touch (some .int) 4 RX1) (hK : va_K (dC, dI) vwCl (tX1 cA) s) (hP : va_P (dC, dI) vwCl (wX1 ad cA nW nH th fn wd dk mn cs nx gs pr ln wy ct bf sg my) s.heap) : ∀ (n : Nat), ∀ (x2 : Int32) (x3 : Int32) (ls : Array Slot), lv_has ls 4 [(0, .ref (ad 0)), (1, .int a1), (2, .int x2), (3, .int x3)] → lX1_touch_4 nH dk a1 Post n x2 x3 → W p l e ({ frames := 1, cells := 0, slots := 0, locals := 22 } : Room) s m args below meth c s.heap [] 0 0 (MQ below (vp_Si Post) args s 0 0 (fun _ => False)) (F0 m 4 ls []) := by
  have hC0 := hC
  obtain ⟨hx, hb, hr, hml, hown, hts, hlocks⟩ := hC
  intro n
  induction n with
  | zero =>
    intro x2 x3 ls hl h
    exact h.elim
  | succ n hr4 =>
    intro x2 x3 ls hl h
    have h : bX1_touch_4 nH dk a1 Post (lX1_touch_4 nH dk a1 Post n) x2 x3 := h
    unfold bX1_touch_4 at h
    refine lv_iload_n hx hb dX1_touch_4 rfl (lv_at hl 3 rfl) ?_
    refine lv_aload_n hx hb dX1_touch_5 rfl (lv_at hl 0 rfl) ?_
    refine va_get (D := (dC, dI)) (ci := 2) (v := .int (nI nH)) (C := RX1) (T := TX1) (N := 17) hx hb hts in_X1_touch hown hK hP 0 rfl rfl 2 (by decide) (hts (.fieldLink RX1 52 "SignCutterModel" "height" "I") (by decide +kernel)) (fun _ h9 => h9) rfl dX1_touch_6 ?_
    refine lv_icmp_ge (tgt := 46) hx hb dX1_touch_9 (by decide) (fun c => ?_) (fun c => ?_)
    · have h := h.1 c
      refine lv_iload_n hx hb dX1_touch_46 rfl (lv_at hl 2 rfl) ?_
      exact W.iret (v := x2) hx hb hr (fun t ht hW => ⟨_, rfl, h, ht⟩) (fun q hq => absurd hq List.not_mem_nil) dX1_touch_47
    · have h := h.2 c
      refine lv_aload_n hx hb dX1_touch_12 rfl (lv_at hl 0 rfl) ?_
      refine lv_iload_n hx hb dX1_touch_13 rfl (lv_at hl 1 rfl) ?_
      refine lv_iconst (v := 1) hx hb dX1_touch_14 (by decide) ?_
      refine lv_isub hx hb dX1_touch_15 ?_
      refine lv_iload_n hx hb dX1_touch_16 rfl (lv_at hl 3 rfl) ?_
      refine z_cVi (ci := 2) (As := [.int (a1 - 1), .int x3]) (rest := []) ⟨hx, hb, hml, hown, hts⟩ (mX1_isDark l h) (cwV 2 hts gX1_touch_X1_isDark rfl rfl rfl (by decide +kernel) ⟨Nat.le_of_ble_eq_true rfl, Nat.le_of_ble_eq_true rfl⟩) hK hP 0 rfl rfl rfl rfl hl.1 rfl (Nat.le_of_ble_eq_true rfl) dX1_touch_17 ⟨Nat.le_of_ble_eq_true rfl, Nat.le_of_ble_eq_true rfl⟩ (fun r_1 h => ?_)
      refine lv_if_eq (tgt := 38) hx hb dX1_touch_20 (by decide) (fun c => ?_) (fun c => ?_)
      · have h := h.1 c
        refine lv_iload_n hx hb dX1_touch_38 rfl (lv_at hl 2 rfl) ?_
        refine lv_istore_n (lv' := [(2, .int x2), (0, .ref (ad 0)), (1, .int a1), (3, .int x3)]) hx hb dX1_touch_39 rfl hl (by decide) rfl (fun ls hl => ?_)
        refine lv_iinc (v := (x3 + 1)) (lv' := [(3, .int (x3 + 1)), (2, .int x2), (0, .ref (ad 0)), (1, .int a1)]) hx hb dX1_touch_40 hl (k := 3) rfl rfl (by decide) rfl (fun ls hl => ?_)
        refine lv_goto (tgt := 4) hx hb dX1_touch_43 (by decide) ?_
        exact hr4 _ _ ls (lv_sub hl [2, 3, 1, 0] rfl) h
      · have h := h.2 c
        refine lv_aload_n hx hb dX1_touch_23 rfl (lv_at hl 0 rfl) ?_
        refine lv_iload_n hx hb dX1_touch_24 rfl (lv_at hl 1 rfl) ?_
        refine lv_iload_n hx hb dX1_touch_25 rfl (lv_at hl 3 rfl) ?_
        refine z_cVi (ci := 2) (As := [.int a1, .int x3]) (rest := []) ⟨hx, hb, hml, hown, hts⟩ (mX1_isDark l h) (cwV 2 hts gX1_touch_X1_isDark rfl rfl rfl (by decide +kernel) ⟨Nat.le_of_ble_eq_true rfl, Nat.le_of_ble_eq_true rfl⟩) hK hP 0 rfl rfl rfl rfl hl.1 rfl (Nat.le_of_ble_eq_true rfl) dX1_touch_26 ⟨Nat.le_of_ble_eq_true rfl, Nat.le_of_ble_eq_true rfl⟩ (fun r_2 h => ?_)
        refine lv_if_eq (tgt := 38) hx hb dX1_touch_29 (by decide) (fun c => ?_) (fun c => ?_)
        · have h := h.1 c
          refine lv_iload_n hx hb dX1_touch_38 rfl (lv_at hl 2 rfl) ?_
          refine lv_istore_n (lv' := [(2, .int x2), (0, .ref (ad 0)), (1, .int a1), (3, .int x3)]) hx hb dX1_touch_39 rfl hl (by decide) rfl (fun ls hl => ?_)
          refine lv_iinc (v := (x3 + 1)) (lv' := [(3, .int (x3 + 1)), (2, .int x2), (0, .ref (ad 0)), (1, .int a1)]) hx hb dX1_touch_40 hl (k := 3) rfl rfl (by decide) rfl (fun ls hl => ?_)
          refine lv_goto (tgt := 4) hx hb dX1_touch_43 (by decide) ?_
          exact hr4 _ _ ls (lv_sub hl [2, 3, 1, 0] rfl) h
        · have h := h.2 c
          refine lv_iload_n hx hb dX1_touch_32 rfl (lv_at hl 2 rfl) ?_
          refine lv_iconst (v := 1) hx hb dX1_touch_33 (by decide) ?_
          refine lv_iadd hx hb dX1_touch_34 ?_
          refine lv_goto (tgt := 39) hx hb dX1_touch_35 (by decide) ?_
          refine lv_topi (fun x2_3 ex2_3 => ?_)
          have h := h x2_3 ex2_3
          refine lv_istore_n (lv' := [(2, .int x2_3), (0, .ref (ad 0)), (1, .int a1), (3, .int x3)]) hx hb dX1_touch_39 rfl hl (by decide) rfl (fun ls hl => ?_)
          refine lv_iinc (v := (x3 + 1)) (lv' := [(3, .int (x3 + 1)), (2, .int x2_3), (0, .ref (ad 0)), (1, .int a1)]) hx hb dX1_touch_40 hl (k := 3) rfl rfl (by decide) rfl (fun ls hl => ?_)
          refine lv_goto (tgt := 4) hx hb dX1_touch_43 (by decide) ?_
          exact hr4 _ _ ls (lv_sub hl [2, 3, 1, 0] rfl) h
set_option maxHeartbeats 4000000 in
set_option maxRecDepth 100000 in
theorem mX1_touch (l : Launch) {dC : Nat → ClassId} {dI : Nat → Nat → Nat} {ad : Nat → Nat} {cA : Nat → ClassId} {nW : Nat} {nH : Nat} {th : Int32} {fn : Int32} {wd : Int32} {dk : Nat → Int32} {mn : Nat → Int32} {cs : Nat → Int64} {nx : Nat → Int32} {gs : Nat → Int32} {pr : Nat → Int64} {ln : Nat → Int32} {wy : Nat → Int32} {ct : Nat → Int64} {bf : Nat → Int64} {sg : Nat → Int64} {my : Nat → Int32} {a1 : Int32} {Post : Int32 → Prop} (h : wX1_touch nH dk a1 Post) : Met l yX1_touch wsX1_touch ({ frames := 1, cells := 0, slots := 0, locals := 22 } : Room) (zPc (dC, dI) vwCl (tX1 cA) (wX1 ad cA nW nH th fn wd dk mn cs nx gs pr ln wy ct bf sg my) [.ref (ad 0), .int a1]) (vp_Si Post) 0 0 (fun _ => False) := by
  refine Met.ofW (cc := cX1_touch) (maxL := 4) (ret := (some .int)) (by decide) rfl ?_
  intro p e s m args below meth c s₁ B hml hv
  obtain ⟨rfl, hP, hK⟩ := hv
  have hC : zC p s m [.ref (ad 0), .int a1].toArray meth c cX1_touch wsX1_touch (some .int) 4 RX1 := ⟨B.exec, B.bytes, B.returns, hml, findClass_of_methodNamed B.named, atoms_spec (ws := wsX1_touch) B.pre, B.notSynchronized⟩
  have hC0 := hC
  obtain ⟨hx, hb, hr, hml, hown, hts, hlocks⟩ := hC
  have hl := lv_entry ([.ref (ad 0), .int a1]) (n := 4) (Nat.le_of_ble_eq_true rfl)
  rw [lg_entry_eq]
  generalize (lg_sl ([.ref (ad 0), .int a1]) ++ List.replicate (4 - (lg_sl ([.ref (ad 0), .int a1])).length) Slot.unset).toArray = ls at hl ⊢
  have hl : lv_has ls 4 [(0, .ref (ad 0)), (1, .int a1)] := hl
  unfold wX1_touch at h
  refine lv_iconst (v := 0) hx hb dX1_touch_0 (by decide) ?_
  refine lv_istore_n (lv' := [(2, .int 0), (0, .ref (ad 0)), (1, .int a1)]) hx hb dX1_touch_1 rfl hl (by decide) rfl (fun ls hl => ?_)
  refine lv_iconst (v := 0) hx hb dX1_touch_2 (by decide) ?_
  refine lv_istore_n (lv' := [(3, .int 0), (2, .int 0), (0, .ref (ad 0)), (1, .int a1)]) hx hb dX1_touch_3 rfl hl (by decide) rfl (fun ls hl => ?_)
  obtain ⟨n_4, h⟩ := h
  exact tX1_touch_4 hC0 hK hP n_4 _ _ ls (lv_sub hl [2, 3, 1, 0] rfl) h
theorem in_X1_mayCut : ∀ w ∈ wsX10, w ∈ wsX1_mayCut := by decide +kernel
set_option maxHeartbeats 4000000 in
set_option maxRecDepth 100000 in
theorem mX1_mayCut (l : Launch) {dC : Nat → ClassId} {dI : Nat → Nat → Nat} {ad : Nat → Nat} {cA : Nat → ClassId} {nW : Nat} {nH : Nat} {th : Int32} {fn : Int32} {wd : Int32} {dk : Nat → Int32} {mn : Nat → Int32} {cs : Nat → Int64} {nx : Nat → Int32} {gs : Nat → Int32} {pr : Nat → Int64} {ln : Nat → Int32} {wy : Nat → Int32} {ct : Nat → Int64} {bf : Nat → Int64} {sg : Nat → Int64} {my : Nat → Int32} {a1 : Int32} {Post : Int32 → Prop} (h : wX1_mayCut nW nH dk a1 Post) : Met l yX1_mayCut wsX1_mayCut ({ frames := 2, cells := 0, slots := 0, locals := 45 } : Room) (zPc (dC, dI) vwCl (tX1 cA) (wX1 ad cA nW nH th fn wd dk mn cs nx gs pr ln wy ct bf sg my) [.ref (ad 0), .int a1]) (vp_Si Post) 0 0 (fun _ => False) := by
  refine Met.ofW (cc := cX1_mayCut) (maxL := 2) (ret := (some .boolean)) (by decide) rfl ?_
  intro p e s m args below meth c s₁ B hml hv
  obtain ⟨rfl, hP, hK⟩ := hv
  have hC : zC p s m [.ref (ad 0), .int a1].toArray meth c cX1_mayCut wsX1_mayCut (some .boolean) 2 RX1 := ⟨B.exec, B.bytes, B.returns, hml, findClass_of_methodNamed B.named, atoms_spec (ws := wsX1_mayCut) B.pre, B.notSynchronized⟩
  have hC0 := hC
  obtain ⟨hx, hb, hr, hml, hown, hts, hlocks⟩ := hC
  have hl := lv_entry ([.ref (ad 0), .int a1]) (n := 2) (Nat.le_of_ble_eq_true rfl)
  rw [lg_entry_eq]
  generalize (lg_sl ([.ref (ad 0), .int a1]) ++ List.replicate (2 - (lg_sl ([.ref (ad 0), .int a1])).length) Slot.unset).toArray = ls at hl ⊢
  have hl : lv_has ls 2 [(0, .ref (ad 0)), (1, .int a1)] := hl
  unfold wX1_mayCut at h
  refine lv_aload_n hx hb dX1_mayCut_0 rfl (lv_at hl 0 rfl) ?_
  refine lv_iload_n hx hb dX1_mayCut_1 rfl (lv_at hl 1 rfl) ?_
  refine z_cVi (ci := 2) (As := [.int a1]) (rest := []) ⟨hx, hb, hml, hown, hts⟩ (mX1_touch l h) (cwV 1 hts gX1_mayCut_X1_touch rfl rfl rfl (by decide +kernel) ⟨Nat.le_of_ble_eq_true rfl, Nat.le_of_ble_eq_true rfl⟩) hK hP 0 rfl rfl rfl rfl hl.1 rfl (Nat.le_of_ble_eq_true rfl) dX1_mayCut_2 ⟨Nat.le_of_ble_eq_true rfl, Nat.le_of_ble_eq_true rfl⟩ (fun r_1 h => ?_)
  refine lv_iconst (v := 3) hx hb dX1_mayCut_5 (by decide) ?_
  refine lv_icmp_ge (tgt := 31) hx hb dX1_mayCut_6 (by decide) (fun c => ?_) (fun c => ?_)
  · have h := h.1 c
    refine lv_iconst (v := 0) hx hb dX1_mayCut_31 (by decide) ?_
    exact W.zret (v := 0) hx hb hr rfl (fun t ht hW => ⟨_, rfl, h, ht⟩) (fun q hq => absurd hq List.not_mem_nil) dX1_mayCut_32
  · have h := h.2 c
    refine lv_aload_n hx hb dX1_mayCut_9 rfl (lv_at hl 0 rfl) ?_
    refine lv_iload_n hx hb dX1_mayCut_10 rfl (lv_at hl 1 rfl) ?_
    refine lv_iconst (v := 1) hx hb dX1_mayCut_11 (by decide) ?_
    refine lv_isub hx hb dX1_mayCut_12 ?_
    refine z_cVi (ci := 2) (As := [.int (a1 - 1)]) (rest := []) ⟨hx, hb, hml, hown, hts⟩ (mX1_hasDark l h) (cwV 1 hts gX1_mayCut_X1_hasDark rfl rfl rfl (by decide +kernel) ⟨Nat.le_of_ble_eq_true rfl, Nat.le_of_ble_eq_true rfl⟩) hK hP 0 rfl rfl rfl rfl hl.1 rfl (Nat.le_of_ble_eq_true rfl) dX1_mayCut_13 ⟨Nat.le_of_ble_eq_true rfl, Nat.le_of_ble_eq_true rfl⟩ (fun r_2 h => ?_)
    refine lv_if_ne (tgt := 27) hx hb dX1_mayCut_16 (by decide) (fun c => ?_) (fun c => ?_)
    · have h := h.2 c
      refine lv_iconst (v := 1) hx hb dX1_mayCut_27 (by decide) ?_
      refine lv_goto (tgt := 32) hx hb dX1_mayCut_28 (by decide) ?_
      exact W.zret (v := 1) hx hb hr rfl (fun t ht hW => ⟨_, rfl, h, ht⟩) (fun q hq => absurd hq List.not_mem_nil) dX1_mayCut_32
    · have h := h.1 c
      refine lv_aload_n hx hb dX1_mayCut_19 rfl (lv_at hl 0 rfl) ?_
      refine lv_iload_n hx hb dX1_mayCut_20 rfl (lv_at hl 1 rfl) ?_
      refine z_cVi (ci := 2) (As := [.int a1]) (rest := []) ⟨hx, hb, hml, hown, hts⟩ (mX1_hasDark l h) (cwV 1 hts gX1_mayCut_X1_hasDark rfl rfl rfl (by decide +kernel) ⟨Nat.le_of_ble_eq_true rfl, Nat.le_of_ble_eq_true rfl⟩) hK hP 0 rfl rfl rfl rfl hl.1 rfl (Nat.le_of_ble_eq_true rfl) dX1_mayCut_21 ⟨Nat.le_of_ble_eq_true rfl, Nat.le_of_ble_eq_true rfl⟩ (fun r_3 h => ?_)
      refine lv_if_eq (tgt := 31) hx hb dX1_mayCut_24 (by decide) (fun c => ?_) (fun c => ?_)
      · have h := h.1 c
        refine lv_iconst (v := 0) hx hb dX1_mayCut_31 (by decide) ?_
        exact W.zret (v := 0) hx hb hr rfl (fun t ht hW => ⟨_, rfl, h, ht⟩) (fun q hq => absurd hq List.not_mem_nil) dX1_mayCut_32
      · have h := h.2 c
        refine lv_iconst (v := 1) hx hb dX1_mayCut_27 (by decide) ?_
        refine lv_goto (tgt := 32) hx hb dX1_mayCut_28 (by decide) ?_
        exact W.zret (v := 1) hx hb hr rfl (fun t ht hW => ⟨_, rfl, h, ht⟩) (fun q hq => absurd hq List.not_mem_nil) dX1_mayCut_32
theorem in_X1_isBroken : ∀ w ∈ wsX10, w ∈ wsX1_isBroken := by decide +kernel
set_option maxHeartbeats 4000000 in
set_option maxRecDepth 100000 in
theorem tX1_isBroken_70 {p : Program} {l : Launch} {e : Env} {s : State} {m : MethodId} {args : Array Value} {below : List Frame} {meth : Method} {c : Code} {dC : Nat → ClassId} {dI : Nat → Nat → Nat} {ad : Nat → Nat} {cA : Nat → ClassId} {nW : Nat} {nH : Nat} {th : Int32} {fn : Int32} {wd : Int32} {dk : Nat → Int32} {mn : Nat → Int32} {cs : Nat → Int64} {nx : Nat → Int32} {gs : Nat → Int32} {pr : Nat → Int64} {ln : Nat → Int32} {wy : Nat → Int32} {ct : Nat → Int64} {bf : Nat → Int64} {sg : Nat → Int64} {my : Nat → Int32} {a1 : Int32} {a2 : Int32} {a3 : Int32} {Post : Int32 → Prop} (hC : zC p s m args meth c cX1_isBroken wsX1_isBroken (some .boolean) 8 RX1) (hK : va_K (dC, dI) vwCl (tX1 cA) s) (hP : va_P (dC, dI) vwCl (wX1 ad cA nW nH th fn wd dk mn cs nx gs pr ln wy ct bf sg my) s.heap) {r12 : Int32 → Int32 → Int32 → Int32 → Prop} (hr12 : ∀ (x4 : Int32) (x5 : Int32) (x6 : Int32) (x7 : Int32) (ls : Array Slot), lv_has ls 8 [(0, .ref (ad 0)), (1, .int a1), (2, .int a2), (3, .int a3), (4, .int x4), (5, .int x5), (6, .int x6), (7, .int x7)] → r12 x4 x5 x6 x7 → W p l e ({ frames := 1, cells := 0, slots := 0, locals := 22 } : Room) s m args below meth c s.heap [] 0 0 (MQ below (vp_Si Post) args s 0 0 (fun _ => False)) (F0 m 12 ls [])) : ∀ (x4 : Int32) (x6 : Int32) (x7 : Int32) (s0 : Int32) (ls : Array Slot), lv_has ls 8 [(0, .ref (ad 0)), (1, .int a1), (2, .int a2), (3, .int a3), (4, .int x4), (6, .int x6), (7, .int x7)] → jX1_isBroken_70 dk a1 a2 a3 Post r12 x4 x6 x7 s0 → W p l e ({ frames := 1, cells := 0, slots := 0, locals := 22 } : Room) s m args below meth c s.heap [] 0 0 (MQ below (vp_Si Post) args s 0 0 (fun _ => False)) (F0 m 70 ls [.int s0]) := by
  have hC0 := hC
  obtain ⟨hx, hb, hr, hml, hown, hts, hlocks⟩ := hC
  intro x4 x6 x7 s0 ls hl h
  unfold jX1_isBroken_70 at h
  refine lv_istore (lv' := [(5, .int s0), (0, .ref (ad 0)), (1, .int a1), (2, .int a2), (3, .int a3), (4, .int x4), (6, .int x6), (7, .int x7)]) hx hb dX1_isBroken_70 hl (by decide) rfl (fun ls hl => ?_)
  refine lv_iload hx hb dX1_isBroken_72 (lv_at hl 5 rfl) ?_
  refine lv_if_ne (tgt := 87) hx hb dX1_isBroken_74 (by decide) (fun c => ?_) (fun c => ?_)
  · have h := h.2 c
    refine lv_iconst (v := 1) hx hb dX1_isBroken_87 (by decide) ?_
    refine lv_goto (tgt := 92) hx hb dX1_isBroken_88 (by decide) ?_
    refine lv_istore (lv' := [(4, .int 1), (5, .int s0), (0, .ref (ad 0)), (1, .int a1), (2, .int a2), (3, .int a3), (6, .int x6), (7, .int x7)]) hx hb dX1_isBroken_92 hl (by decide) rfl (fun ls hl => ?_)
    refine lv_iinc (v := (x7 + 1)) (lv' := [(7, .int (x7 + 1)), (4, .int 1), (5, .int s0), (0, .ref (ad 0)), (1, .int a1), (2, .int a2), (3, .int a3), (6, .int x6)]) hx hb dX1_isBroken_94 hl (k := 7) rfl rfl (by decide) rfl (fun ls hl => ?_)
    refine lv_goto (tgt := 12) hx hb dX1_isBroken_97 (by decide) ?_
    exact hr12 _ _ _ _ ls (lv_sub hl [3, 4, 5, 6, 1, 2, 7, 0] rfl) h
  · have h := h.1 c
    refine lv_aload_n hx hb dX1_isBroken_77 rfl (lv_at hl 1 rfl) ?_
    refine lv_iload hx hb dX1_isBroken_78 (lv_at hl 7 rfl) ?_
    refine lv_iload_n hx hb dX1_isBroken_80 rfl (lv_at hl 4 rfl) ?_
    refine z_cVi (ci := 2) (As := [.int x7, .int a3]) (rest := []) ⟨hx, hb, hml, hown, hts⟩ (mX1_isDark l h) (cwV 2 hts gX1_isBroken_X1_isDark rfl rfl rfl (by decide +kernel) ⟨Nat.le_of_ble_eq_true rfl, Nat.le_of_ble_eq_true rfl⟩) hK hP 0 rfl rfl rfl rfl hl.1 rfl (Nat.le_of_ble_eq_true rfl) dX1_isBroken_81 ⟨Nat.le_of_ble_eq_true rfl, Nat.le_of_ble_eq_true rfl⟩ (fun r_1 h => ?_)
    refine lv_if_eq (tgt := 91) hx hb dX1_isBroken_84 (by decide) (fun c => ?_) (fun c => ?_)
    · have h := h.1 c
      refine lv_iconst (v := 0) hx hb dX1_isBroken_91 (by decide) ?_
      refine lv_istore (lv' := [(4, .int 0), (5, .int s0), (0, .ref (ad 0)), (1, .int a1), (2, .int a2), (3, .int a3), (6, .int x6), (7, .int x7)]) hx hb dX1_isBroken_92 hl (by decide) rfl (fun ls hl => ?_)
      refine lv_iinc (v := (x7 + 1)) (lv' := [(7, .int (x7 + 1)), (4, .int 0), (5, .int s0), (0, .ref (ad 0)), (1, .int a1), (2, .int a2), (3, .int a3), (6, .int x6)]) hx hb dX1_isBroken_94 hl (k := 7) rfl rfl (by decide) rfl (fun ls hl => ?_)
      refine lv_goto (tgt := 12) hx hb dX1_isBroken_97 (by decide) ?_
      exact hr12 _ _ _ _ ls (lv_sub hl [3, 4, 5, 6, 1, 2, 7, 0] rfl) h
    · have h := h.2 c
      refine lv_iconst (v := 1) hx hb dX1_isBroken_87 (by decide) ?_
      refine lv_goto (tgt := 92) hx hb dX1_isBroken_88 (by decide) ?_
      refine lv_istore (lv' := [(4, .int 1), (5, .int s0), (0, .ref (ad 0)), (1, .int a1), (2, .int a2), (3, .int a3), (6, .int x6), (7, .int x7)]) hx hb dX1_isBroken_92 hl (by decide) rfl (fun ls hl => ?_)
      refine lv_iinc (v := (x7 + 1)) (lv' := [(7, .int (x7 + 1)), (4, .int 1), (5, .int s0), (0, .ref (ad 0)), (1, .int a1), (2, .int a2), (3, .int a3), (6, .int x6)]) hx hb dX1_isBroken_94 hl (k := 7) rfl rfl (by decide) rfl (fun ls hl => ?_)
      refine lv_goto (tgt := 12) hx hb dX1_isBroken_97 (by decide) ?_
      exact hr12 _ _ _ _ ls (lv_sub hl [3, 4, 5, 6, 1, 2, 7, 0] rfl) h
set_option maxHeartbeats 4000000 in
set_option maxRecDepth 100000 in
theorem tX1_isBroken_69 {p : Program} {l : Launch} {e : Env} {s : State} {m : MethodId} {args : Array Value} {below : List Frame} {meth : Method} {c : Code} {dC : Nat → ClassId} {dI : Nat → Nat → Nat} {ad : Nat → Nat} {cA : Nat → ClassId} {nW : Nat} {nH : Nat} {th : Int32} {fn : Int32} {wd : Int32} {dk : Nat → Int32} {mn : Nat → Int32} {cs : Nat → Int64} {nx : Nat → Int32} {gs : Nat → Int32} {pr : Nat → Int64} {ln : Nat → Int32} {wy : Nat → Int32} {ct : Nat → Int64} {bf : Nat → Int64} {sg : Nat → Int64} {my : Nat → Int32} {a1 : Int32} {a2 : Int32} {a3 : Int32} {Post : Int32 → Prop} (hC : zC p s m args meth c cX1_isBroken wsX1_isBroken (some .boolean) 8 RX1) (hK : va_K (dC, dI) vwCl (tX1 cA) s) (hP : va_P (dC, dI) vwCl (wX1 ad cA nW nH th fn wd dk mn cs nx gs pr ln wy ct bf sg my) s.heap) {r12 : Int32 → Int32 → Int32 → Int32 → Prop} (hr12 : ∀ (x4 : Int32) (x5 : Int32) (x6 : Int32) (x7 : Int32) (ls : Array Slot), lv_has ls 8 [(0, .ref (ad 0)), (1, .int a1), (2, .int a2), (3, .int a3), (4, .int x4), (5, .int x5), (6, .int x6), (7, .int x7)] → r12 x4 x5 x6 x7 → W p l e ({ frames := 1, cells := 0, slots := 0, locals := 22 } : Room) s m args below meth c s.heap [] 0 0 (MQ below (vp_Si Post) args s 0 0 (fun _ => False)) (F0 m 12 ls [])) : ∀ (x4 : Int32) (x6 : Int32) (x7 : Int32) (ls : Array Slot), lv_has ls 8 [(0, .ref (ad 0)), (1, .int a1), (2, .int a2), (3, .int a3), (4, .int x4), (6, .int x6), (7, .int x7)] → jX1_isBroken_69 dk a1 a2 a3 Post r12 x4 x6 x7 → W p l e ({ frames := 1, cells := 0, slots := 0, locals := 22 } : Room) s m args below meth c s.heap [] 0 0 (MQ below (vp_Si Post) args s 0 0 (fun _ => False)) (F0 m 69 ls []) := by
  have hC0 := hC
  obtain ⟨hx, hb, hr, hml, hown, hts, hlocks⟩ := hC
  intro x4 x6 x7 ls hl h
  unfold jX1_isBroken_69 at h
  refine lv_iconst (v := 0) hx hb dX1_isBroken_69 (by decide) ?_
  exact tX1_isBroken_70 hC0 hK hP hr12 _ _ _ _ ls (lv_sub hl [0, 1, 2, 3, 4, 5, 6] rfl) h
set_option maxHeartbeats 4000000 in
set_option maxRecDepth 100000 in
theorem tX1_isBroken_48 {p : Program} {l : Launch} {e : Env} {s : State} {m : MethodId} {args : Array Value} {below : List Frame} {meth : Method} {c : Code} {dC : Nat → ClassId} {dI : Nat → Nat → Nat} {ad : Nat → Nat} {cA : Nat → ClassId} {nW : Nat} {nH : Nat} {th : Int32} {fn : Int32} {wd : Int32} {dk : Nat → Int32} {mn : Nat → Int32} {cs : Nat → Int64} {nx : Nat → Int32} {gs : Nat → Int32} {pr : Nat → Int64} {ln : Nat → Int32} {wy : Nat → Int32} {ct : Nat → Int64} {bf : Nat → Int64} {sg : Nat → Int64} {my : Nat → Int32} {a1 : Int32} {a2 : Int32} {a3 : Int32} {Post : Int32 → Prop} (hC : zC p s m args meth c cX1_isBroken wsX1_isBroken (some .boolean) 8 RX1) (hK : va_K (dC, dI) vwCl (tX1 cA) s) (hP : va_P (dC, dI) vwCl (wX1 ad cA nW nH th fn wd dk mn cs nx gs pr ln wy ct bf sg my) s.heap) {r12 : Int32 → Int32 → Int32 → Int32 → Prop} (hr12 : ∀ (x4 : Int32) (x5 : Int32) (x6 : Int32) (x7 : Int32) (ls : Array Slot), lv_has ls 8 [(0, .ref (ad 0)), (1, .int a1), (2, .int a2), (3, .int a3), (4, .int x4), (5, .int x5), (6, .int x6), (7, .int x7)] → r12 x4 x5 x6 x7 → W p l e ({ frames := 1, cells := 0, slots := 0, locals := 22 } : Room) s m args below meth c s.heap [] 0 0 (MQ below (vp_Si Post) args s 0 0 (fun _ => False)) (F0 m 12 ls [])) : ∀ (x4 : Int32) (x7 : Int32) (s0 : Int32) (ls : Array Slot), lv_has ls 8 [(0, .ref (ad 0)), (1, .int a1), (2, .int a2), (3, .int a3), (4, .int x4), (7, .int x7)] → jX1_isBroken_48 dk a1 a2 a3 Post r12 x4 x7 s0 → W p l e ({ frames := 1, cells := 0, slots := 0, locals := 22 } : Room) s m args below meth c s.heap [] 0 0 (MQ below (vp_Si Post) args s 0 0 (fun _ => False)) (F0 m 48 ls [.int s0]) := by
  have hC0 := hC
  obtain ⟨hx, hb, hr, hml, hown, hts, hlocks⟩ := hC
  intro x4 x7 s0 ls hl h
  unfold jX1_isBroken_48 at h
  refine lv_istore (lv' := [(6, .int s0), (0, .ref (ad 0)), (1, .int a1), (2, .int a2), (3, .int a3), (4, .int x4), (7, .int x7)]) hx hb dX1_isBroken_48 hl (by decide) rfl (fun ls hl => ?_)
  refine lv_iload hx hb dX1_isBroken_50 (lv_at hl 5 rfl) ?_
  refine lv_if_eq (tgt := 69) hx hb dX1_isBroken_52 (by decide) (fun c => ?_) (fun c => ?_)
  · have h := h.1 c
    exact tX1_isBroken_69 hC0 hK hP hr12 _ _ _ ls (lv_sub hl [1, 2, 3, 4, 5, 0, 6] rfl) h
  · have h := h.2 c
    refine lv_aload_n hx hb dX1_isBroken_55 rfl (lv_at hl 1 rfl) ?_
    refine lv_iload hx hb dX1_isBroken_56 (lv_at hl 6 rfl) ?_
    refine lv_iload_n hx hb dX1_isBroken_58 rfl (lv_at hl 4 rfl) ?_
    refine z_cVi (ci := 2) (As := [.int x7, .int a3]) (rest := []) ⟨hx, hb, hml, hown, hts⟩ (mX1_isDark l h) (cwV 2 hts gX1_isBroken_X1_isDark rfl rfl rfl (by decide +kernel) ⟨Nat.le_of_ble_eq_true rfl, Nat.le_of_ble_eq_true rfl⟩) hK hP 0 rfl rfl rfl rfl hl.1 rfl (Nat.le_of_ble_eq_true rfl) dX1_isBroken_59 ⟨Nat.le_of_ble_eq_true rfl, Nat.le_of_ble_eq_true rfl⟩ (fun r_2 h => ?_)
    refine lv_if_ne (tgt := 69) hx hb dX1_isBroken_62 (by decide) (fun c => ?_) (fun c => ?_)
    · have h := h.2 c
      exact tX1_isBroken_69 hC0 hK hP hr12 _ _ _ ls (lv_sub hl [1, 2, 3, 4, 5, 0, 6] rfl) h
    · have h := h.1 c
      refine lv_iconst (v := 1) hx hb dX1_isBroken_65 (by decide) ?_
      refine lv_goto (tgt := 70) hx hb dX1_isBroken_66 (by decide) ?_
      exact tX1_isBroken_70 hC0 hK hP hr12 _ _ _ _ ls (lv_sub hl [1, 2, 3, 4, 5, 0, 6] rfl) h
set_option maxHeartbeats 4000000 in
set_option maxRecDepth 100000 in
theorem tX1_isBroken_43 {p : Program} {l : Launch} {e : Env} {s : State} {m : MethodId} {args : Array Value} {below : List Frame} {meth : Method} {c : Code} {dC : Nat → ClassId} {dI : Nat → Nat → Nat} {ad : Nat → Nat} {cA : Nat → ClassId} {nW : Nat} {nH : Nat} {th : Int32} {fn : Int32} {wd : Int32} {dk : Nat → Int32} {mn : Nat → Int32} {cs : Nat → Int64} {nx : Nat → Int32} {gs : Nat → Int32} {pr : Nat → Int64} {ln : Nat → Int32} {wy : Nat → Int32} {ct : Nat → Int64} {bf : Nat → Int64} {sg : Nat → Int64} {my : Nat → Int32} {a1 : Int32} {a2 : Int32} {a3 : Int32} {Post : Int32 → Prop} (hC : zC p s m args meth c cX1_isBroken wsX1_isBroken (some .boolean) 8 RX1) (hK : va_K (dC, dI) vwCl (tX1 cA) s) (hP : va_P (dC, dI) vwCl (wX1 ad cA nW nH th fn wd dk mn cs nx gs pr ln wy ct bf sg my) s.heap) {r12 : Int32 → Int32 → Int32 → Int32 → Prop} (hr12 : ∀ (x4 : Int32) (x5 : Int32) (x6 : Int32) (x7 : Int32) (ls : Array Slot), lv_has ls 8 [(0, .ref (ad 0)), (1, .int a1), (2, .int a2), (3, .int a3), (4, .int x4), (5, .int x5), (6, .int x6), (7, .int x7)] → r12 x4 x5 x6 x7 → W p l e ({ frames := 1, cells := 0, slots := 0, locals := 22 } : Room) s m args below meth c s.heap [] 0 0 (MQ below (vp_Si Post) args s 0 0 (fun _ => False)) (F0 m 12 ls [])) : ∀ (x4 : Int32) (x7 : Int32) (ls : Array Slot), lv_has ls 8 [(0, .ref (ad 0)), (1, .int a1), (2, .int a2), (3, .int a3), (4, .int x4), (7, .int x7)] → jX1_isBroken_43 dk a1 a2 a3 Post r12 x4 x7 → W p l e ({ frames := 1, cells := 0, slots := 0, locals := 22 } : Room) s m args below meth c s.heap [] 0 0 (MQ below (vp_Si Post) args s 0 0 (fun _ => False)) (F0 m 43 ls []) := by
  have hC0 := hC
  obtain ⟨hx, hb, hr, hml, hown, hts, hlocks⟩ := hC
  intro x4 x7 ls hl h
  unfold jX1_isBroken_43 at h
  refine lv_iconst (v := 1) hx hb dX1_isBroken_43 (by decide) ?_
  refine lv_goto (tgt := 48) hx hb dX1_isBroken_44 (by decide) ?_
  exact tX1_isBroken_48 hC0 hK hP hr12 _ _ _ ls (lv_sub hl [0, 1, 2, 3, 4, 5] rfl) h
set_option maxHeartbeats 4000000 in
set_option maxRecDepth 100000 in
theorem tX1_isBroken_47 {p : Program} {l : Launch} {e : Env} {s : State} {m : MethodId} {args : Array Value} {below : List Frame} {meth : Method} {c : Code} {dC : Nat → ClassId} {dI : Nat → Nat → Nat} {ad : Nat → Nat} {cA : Nat → ClassId} {nW : Nat} {nH : Nat} {th : Int32} {fn : Int32} {wd : Int32} {dk : Nat → Int32} {mn : Nat → Int32} {cs : Nat → Int64} {nx : Nat → Int32} {gs : Nat → Int32} {pr : Nat → Int64} {ln : Nat → Int32} {wy : Nat → Int32} {ct : Nat → Int64} {bf : Nat → Int64} {sg : Nat → Int64} {my : Nat → Int32} {a1 : Int32} {a2 : Int32} {a3 : Int32} {Post : Int32 → Prop} (hC : zC p s m args meth c cX1_isBroken wsX1_isBroken (some .boolean) 8 RX1) (hK : va_K (dC, dI) vwCl (tX1 cA) s) (hP : va_P (dC, dI) vwCl (wX1 ad cA nW nH th fn wd dk mn cs nx gs pr ln wy ct bf sg my) s.heap) {r12 : Int32 → Int32 → Int32 → Int32 → Prop} (hr12 : ∀ (x4 : Int32) (x5 : Int32) (x6 : Int32) (x7 : Int32) (ls : Array Slot), lv_has ls 8 [(0, .ref (ad 0)), (1, .int a1), (2, .int a2), (3, .int a3), (4, .int x4), (5, .int x5), (6, .int x6), (7, .int x7)] → r12 x4 x5 x6 x7 → W p l e ({ frames := 1, cells := 0, slots := 0, locals := 22 } : Room) s m args below meth c s.heap [] 0 0 (MQ below (vp_Si Post) args s 0 0 (fun _ => False)) (F0 m 12 ls [])) : ∀ (x4 : Int32) (x7 : Int32) (ls : Array Slot), lv_has ls 8 [(0, .ref (ad 0)), (1, .int a1), (2, .int a2), (3, .int a3), (4, .int x4), (7, .int x7)] → jX1_isBroken_47 dk a1 a2 a3 Post r12 x4 x7 → W p l e ({ frames := 1, cells := 0, slots := 0, locals := 22 } : Room) s m args below meth c s.heap [] 0 0 (MQ below (vp_Si Post) args s 0 0 (fun _ => False)) (F0 m 47 ls []) := by
  have hC0 := hC
  obtain ⟨hx, hb, hr, hml, hown, hts, hlocks⟩ := hC
  intro x4 x7 ls hl h
  unfold jX1_isBroken_47 at h
  refine lv_iconst (v := 0) hx hb dX1_isBroken_47 (by decide) ?_
  exact tX1_isBroken_48 hC0 hK hP hr12 _ _ _ ls (lv_sub hl [0, 1, 2, 3, 4, 5] rfl) h
set_option maxHeartbeats 4000000 in
set_option maxRecDepth 100000 in
theorem tX1_isBroken_12 {p : Program} {l : Launch} {e : Env} {s : State} {m : MethodId} {args : Array Value} {below : List Frame} {meth : Method} {c : Code} {dC : Nat → ClassId} {dI : Nat → Nat → Nat} {ad : Nat → Nat} {cA : Nat → ClassId} {nW : Nat} {nH : Nat} {th : Int32} {fn : Int32} {wd : Int32} {dk : Nat → Int32} {mn : Nat → Int32} {cs : Nat → Int64} {nx : Nat → Int32} {gs : Nat → Int32} {pr : Nat → Int64} {ln : Nat → Int32} {wy : Nat → Int32} {ct : Nat → Int64} {bf : Nat → Int64} {sg : Nat → Int64} {my : Nat → Int32} {a1 : Int32} {a2 : Int32} {a3 : Int32} {Post : Int32 → Prop} (hC : zC p s m args meth c cX1_isBroken wsX1_isBroken (some .boolean) 8 RX1) (hK : va_K (dC, dI) vwCl (tX1 cA) s) (hP : va_P (dC, dI) vwCl (wX1 ad cA nW nH th fn wd dk mn cs nx gs pr ln wy ct bf sg my) s.heap) : ∀ (n : Nat), ∀ (x4 : Int32) (x5 : Int32) (x6 : Int32) (x7 : Int32) (ls : Array Slot), lv_has ls 8 [(0, .ref (ad 0)), (1, .int a1), (2, .int a2), (3, .int a3), (4, .int x4), (5, .int x5), (6, .int x6), (7, .int x7)] → lX1_isBroken_12 dk a1 a2 a3 Post n x4 x5 x6 x7 → W p l e ({ frames := 1, cells := 0, slots := 0, locals := 22 } : Room) s m args below meth c s.heap [] 0 0 (MQ below (vp_Si Post) args s 0 0 (fun _ => False)) (F0 m 12 ls []) := by
  have hC0 := hC
  obtain ⟨hx, hb, hr, hml, hown, hts, hlocks⟩ := hC
  intro n
  induction n with
  | zero =>
    intro x4 x5 x6 x7 ls hl h
    exact h.elim
  | succ n hr12 =>
    intro x4 x5 x6 x7 ls hl h
    have h : bX1_isBroken_12 dk a1 a2 a3 Post (lX1_isBroken_12 dk a1 a2 a3 Post n) x4 x5 x6 x7 := h
    unfold bX1_isBroken_12 at h
    refine lv_iload hx hb dX1_isBroken_12 (lv_at hl 7 rfl) ?_
    refine lv_iload_n hx hb dX1_isBroken_14 rfl (lv_at hl 2 rfl) ?_
    refine lv_icmp_ge (tgt := 100) hx hb dX1_isBroken_15 (by decide) (fun c => ?_) (fun c => ?_)
    · have h := h.1 c
      refine lv_iload hx hb dX1_isBroken_100 (lv_at hl 6 rfl) ?_
      exact W.zret (v := x6) hx hb hr (z_nz h.1) (fun t ht hW => ⟨_, rfl, h.2, ht⟩) (fun q hq => absurd hq List.not_mem_nil) dX1_isBroken_102
    · have h := h.2 c
      refine lv_iload hx hb dX1_isBroken_18 (lv_at hl 6 rfl) ?_
      refine lv_if_ne (tgt := 43) hx hb dX1_isBroken_20 (by decide) (fun c => ?_) (fun c => ?_)
      · have h := h.2 c
        exact tX1_isBroken_43 hC0 hK hP hr12 _ _ ls (lv_sub hl [0, 1, 2, 3, 4, 7] rfl) h
      · have h := h.1 c
        refine lv_iload hx hb dX1_isBroken_23 (lv_at hl 4 rfl) ?_
        refine lv_if_eq (tgt := 47) hx hb dX1_isBroken_25 (by decide) (fun c => ?_) (fun c => ?_)
        · have h := h.1 c
          exact tX1_isBroken_47 hC0 hK hP hr12 _ _ ls (lv_sub hl [0, 1, 2, 3, 4, 7] rfl) h
        · have h := h.2 c
          refine lv_iload hx hb dX1_isBroken_28 (lv_at hl 5 rfl) ?_
          refine lv_if_eq (tgt := 47) hx hb dX1_isBroken_30 (by decide) (fun c => ?_) (fun c => ?_)
          · have h := h.1 c
            exact tX1_isBroken_47 hC0 hK hP hr12 _ _ ls (lv_sub hl [0, 1, 2, 3, 4, 7] rfl) h
          · have h := h.2 c
            refine lv_aload_n hx hb dX1_isBroken_33 rfl (lv_at hl 0 rfl) ?_
            refine lv_iload hx hb dX1_isBroken_34 (lv_at hl 7 rfl) ?_
            refine lv_iload_n hx hb dX1_isBroken_36 rfl (lv_at hl 3 rfl) ?_
            refine z_cVi (ci := 2) (As := [.int x7, .int a3]) (rest := []) ⟨hx, hb, hml, hown, hts⟩ (mX1_isDark l h) (cwV 2 hts gX1_isBroken_X1_isDark rfl rfl rfl (by decide +kernel) ⟨Nat.le_of_ble_eq_true rfl, Nat.le_of_ble_eq_true rfl⟩) hK hP 0 rfl rfl rfl rfl hl.1 rfl (Nat.le_of_ble_eq_true rfl) dX1_isBroken_37 ⟨Nat.le_of_ble_eq_true rfl, Nat.le_of_ble_eq_true rfl⟩ (fun r_3 h => ?_)
            refine lv_if_eq (tgt := 47) hx hb dX1_isBroken_40 (by decide) (fun c => ?_) (fun c => ?_)
            · have h := h.1 c
              exact tX1_isBroken_47 hC0 hK hP hr12 _ _ ls (lv_sub hl [0, 1, 2, 3, 4, 7] rfl) h
            · have h := h.2 c
              exact tX1_isBroken_43 hC0 hK hP hr12 _ _ ls (lv_sub hl [0, 1, 2, 3, 4, 7] rfl) h
set_option maxHeartbeats 4000000 in
set_option maxRecDepth 100000 in
theorem mX1_isBroken (l : Launch) {dC : Nat → ClassId} {dI : Nat → Nat → Nat} {ad : Nat → Nat} {cA : Nat → ClassId} {nW : Nat} {nH : Nat} {th : Int32} {fn : Int32} {wd : Int32} {dk : Nat → Int32} {mn : Nat → Int32} {cs : Nat → Int64} {nx : Nat → Int32} {gs : Nat → Int32} {pr : Nat → Int64} {ln : Nat → Int32} {wy : Nat → Int32} {ct : Nat → Int64} {bf : Nat → Int64} {sg : Nat → Int64} {my : Nat → Int32} {a1 : Int32} {a2 : Int32} {a3 : Int32} {Post : Int32 → Prop} (h : wX1_isBroken dk a1 a2 a3 Post) : Met l yX1_isBroken wsX1_isBroken ({ frames := 1, cells := 0, slots := 0, locals := 22 } : Room) (zPc (dC, dI) vwCl (tX1 cA) (wX1 ad cA nW nH th fn wd dk mn cs nx gs pr ln wy ct bf sg my) [.ref (ad 0), .int a1, .int a2, .int a3]) (vp_Si Post) 0 0 (fun _ => False) := by
  refine Met.ofW (cc := cX1_isBroken) (maxL := 8) (ret := (some .boolean)) (by decide) rfl ?_
  intro p e s m args below meth c s₁ B hml hv
  obtain ⟨rfl, hP, hK⟩ := hv
  have hC : zC p s m [.ref (ad 0), .int a1, .int a2, .int a3].toArray meth c cX1_isBroken wsX1_isBroken (some .boolean) 8 RX1 := ⟨B.exec, B.bytes, B.returns, hml, findClass_of_methodNamed B.named, atoms_spec (ws := wsX1_isBroken) B.pre, B.notSynchronized⟩
  have hC0 := hC
  obtain ⟨hx, hb, hr, hml, hown, hts, hlocks⟩ := hC
  have hl := lv_entry ([.ref (ad 0), .int a1, .int a2, .int a3]) (n := 8) (Nat.le_of_ble_eq_true rfl)
  rw [lg_entry_eq]
  generalize (lg_sl ([.ref (ad 0), .int a1, .int a2, .int a3]) ++ List.replicate (8 - (lg_sl ([.ref (ad 0), .int a1, .int a2, .int a3])).length) Slot.unset).toArray = ls at hl ⊢
  have hl : lv_has ls 8 [(0, .ref (ad 0)), (1, .int a1), (2, .int a2), (3, .int a3)] := hl
  unfold wX1_isBroken at h
  refine lv_iconst (v := 0) hx hb dX1_isBroken_0 (by decide) ?_
  refine lv_istore (lv' := [(4, .int 0), (0, .ref (ad 0)), (1, .int a1), (2, .int a2), (3, .int a3)]) hx hb dX1_isBroken_1 hl (by decide) rfl (fun ls hl => ?_)
  refine lv_iconst (v := 0) hx hb dX1_isBroken_3 (by decide) ?_
  refine lv_istore (lv' := [(5, .int 0), (4, .int 0), (0, .ref (ad 0)), (1, .int a1), (2, .int a2), (3, .int a3)]) hx hb dX1_isBroken_4 hl (by decide) rfl (fun ls hl => ?_)
  refine lv_iconst (v := 0) hx hb dX1_isBroken_6 (by decide) ?_
  refine lv_istore (lv' := [(6, .int 0), (5, .int 0), (4, .int 0), (0, .ref (ad 0)), (1, .int a1), (2, .int a2), (3, .int a3)]) hx hb dX1_isBroken_7 hl (by decide) rfl (fun ls hl => ?_)
  refine lv_iload_n hx hb dX1_isBroken_9 rfl (lv_at hl 4 rfl) ?_
  refine lv_istore (lv' := [(7, .int a1), (6, .int 0), (5, .int 0), (4, .int 0), (0, .ref (ad 0)), (1, .int a1), (2, .int a2), (3, .int a3)]) hx hb dX1_isBroken_10 hl (by decide) rfl (fun ls hl => ?_)
  obtain ⟨n_4, h⟩ := h
  exact tX1_isBroken_12 hC0 hK hP n_4 _ _ _ _ ls (lv_sub hl [4, 5, 6, 7, 3, 2, 1, 0] rfl) h
theorem in_X1_sign : ∀ w ∈ wsX10, w ∈ wsX1_sign := by decide +kernel
set_option maxHeartbeats 4000000 in
set_option maxRecDepth 100000 in
theorem tX1_sign_115 {p : Program} {l : Launch} {e : Env} {s : State} {m : MethodId} {args : Array Value} {below : List Frame} {meth : Method} {c : Code} {dC : Nat → ClassId} {dI : Nat → Nat → Nat} {ad : Nat → Nat} {cA : Nat → ClassId} {nW : Nat} {nH : Nat} {th : Int32} {fn : Int32} {wd : Int32} {dk : Nat → Int32} {mn : Nat → Int32} {cs : Nat → Int64} {nx : Nat → Int32} {gs : Nat → Int32} {pr : Nat → Int64} {ln : Nat → Int32} {wy : Nat → Int32} {ct : Nat → Int64} {bf : Nat → Int64} {sg : Nat → Int64} {my : Nat → Int32} {a1 : Int32} {a2 : Int32} {Post : Int64 → Prop} (hC : zC p s m args meth c cX1_sign wsX1_sign (some .long) 10 RX1) (hK : va_K (dC, dI) vwCl (tX1 cA) s) (hP : va_P (dC, dI) vwCl (wX1 ad cA nW nH th fn wd dk mn cs nx gs pr ln wy ct bf sg my) s.heap) : ∀ (n : Nat), ∀ (x6 : Int64) (x8 : Int32) (x9 : Int32) (ls : Array Slot), lv_has ls 10 [(0, .ref (ad 0)), (1, .int a1), (2, .int a2), (6, .long x6), (8, .int x8), (9, .int x9)] → lX1_sign_115 nW nH wd dk a1 a2 Post n x6 x8 x9 → W p l e ({ frames := 2, cells := 0, slots := 0, locals := 49 } : Room) s m args below meth c s.heap [] 0 0 (MQ below (vp_Sl Post) args s 0 0 (fun _ => False)) (F0 m 115 ls []) := by
  have hC0 := hC
  obtain ⟨hx, hb, hr, hml, hown, hts, hlocks⟩ := hC
  intro n
  induction n with
  | zero =>
    intro x6 x8 x9 ls hl h
    exact h.elim
  | succ n hr115 =>
    intro x6 x8 x9 ls hl h
    have h : bX1_sign_115 nW nH wd dk a1 a2 Post (lX1_sign_115 nW nH wd dk a1 a2 Post n) x6 x8 x9 := h
    unfold bX1_sign_115 at h
    refine lv_iload hx hb dX1_sign_115 (lv_at hl 5 rfl) ?_
    refine lv_aload_n hx hb dX1_sign_117 rfl (lv_at hl 0 rfl) ?_
    refine va_get (D := (dC, dI)) (ci := 2) (v := .int (nI nH)) (C := RX1) (T := TX1) (N := 17) hx hb hts in_X1_sign hown hK hP 0 rfl rfl 2 (by decide) (hts (.fieldLink RX1 52 "SignCutterModel" "height" "I") (by decide +kernel)) (fun _ h9 => h9) rfl dX1_sign_118 ?_
    refine lv_icmp_ge (tgt := 152) hx hb dX1_sign_121 (by decide) (fun c => ?_) (fun c => ?_)
    · have h := h.1 c
      refine lv_iload hx hb dX1_sign_152 (lv_at hl 4 rfl) ?_
      refine lv_if_le (tgt := 172) hx hb dX1_sign_154 (by decide) (fun c => ?_) (fun c => ?_)
      · have h := h.1 c
        refine lv_lload hx hb dX1_sign_172 (lv_at hl 3 rfl) ?_
        exact W.lret (v := x6) hx hb hr (fun t ht hW => ⟨_, rfl, h, ht⟩) (fun q hq => absurd hq List.not_mem_nil) dX1_sign_174
      · have h := h.2 c
        refine lv_lload hx hb dX1_sign_157 (lv_at hl 3 rfl) ?_
        refine lv_ldc2 hx hb hown (hts (.constantLong RX1 94 (2)) (by decide +kernel)) dX1_sign_159 ?_
        refine lv_iload hx hb dX1_sign_162 (lv_at hl 4 rfl) ?_
        refine lv_iconst (v := 1) hx hb dX1_sign_164 (by decide) ?_
        refine lv_isub hx hb dX1_sign_165 ?_
        refine lv_i2l (v := (Int32.toInt64 (x8 - 1))) hx hb dX1_sign_166 rfl ?_
        refine lv_lmul hx hb dX1_sign_167 ?_
        refine lv_ladd hx hb dX1_sign_168 ?_
        refine lv_goto (tgt := 174) hx hb dX1_sign_169 (by decide) ?_
        exact W.lret (v := (x6 + (2 * (Int32.toInt64 (x8 - 1))))) hx hb hr (fun t ht hW => ⟨_, rfl, h, ht⟩) (fun q hq => absurd hq List.not_mem_nil) dX1_sign_174
    · have h := h.2 c
      refine lv_aload_n hx hb dX1_sign_124 rfl (lv_at hl 0 rfl) ?_
      refine lv_iload_n hx hb dX1_sign_125 rfl (lv_at hl 1 rfl) ?_
      refine lv_iload_n hx hb dX1_sign_126 rfl (lv_at hl 2 rfl) ?_
      refine lv_iload hx hb dX1_sign_127 (lv_at hl 5 rfl) ?_
      refine z_cVi (ci := 2) (As := [.int a1, .int a2, .int x9]) (rest := []) ⟨hx, hb, hml, hown, hts⟩ (mX1_isBroken l h) (cwV 3 hts gX1_sign_X1_isBroken rfl rfl rfl (by decide +kernel) ⟨Nat.le_of_ble_eq_true rfl, Nat.le_of_ble_eq_true rfl⟩) hK hP 0 rfl rfl rfl rfl hl.1 rfl (Nat.le_of_ble_eq_true rfl) dX1_sign_129 ⟨Nat.le_of_ble_eq_true rfl, Nat.le_of_ble_eq_true rfl⟩ (fun r_5 h => ?_)
      refine lv_if_eq (tgt := 142) hx hb dX1_sign_132 (by decide) (fun c => ?_) (fun c => ?_)
      · have h := h.1 c
        refine lv_iload hx hb dX1_sign_142 (lv_at hl 4 rfl) ?_
        refine lv_istore (lv' := [(8, .int x8), (0, .ref (ad 0)), (1, .int a1), (2, .int a2), (6, .long x6), (9, .int x9)]) hx hb dX1_sign_144 hl (by decide) rfl (fun ls hl => ?_)
        refine lv_iinc (v := (x9 + 1)) (lv' := [(9, .int (x9 + 1)), (8, .int x8), (0, .ref (ad 0)), (1, .int a1), (2, .int a2), (6, .long x6)]) hx hb dX1_sign_146 hl (k := 5) rfl rfl (by decide) rfl (fun ls hl => ?_)
        refine lv_goto (tgt := 115) hx hb dX1_sign_149 (by decide) ?_
        exact hr115 _ _ _ ls (lv_sub hl [2, 3, 4, 5, 1, 0] rfl) h
      · have h := h.2 c
        refine lv_iload hx hb dX1_sign_135 (lv_at hl 4 rfl) ?_
        refine lv_iconst (v := 1) hx hb dX1_sign_137 (by decide) ?_
        refine lv_iadd hx hb dX1_sign_138 ?_
        refine lv_goto (tgt := 144) hx hb dX1_sign_139 (by decide) ?_
        refine lv_topi (fun x8_6 ex8_6 => ?_)
        have h := h x8_6 ex8_6
        refine lv_istore (lv' := [(8, .int x8_6), (0, .ref (ad 0)), (1, .int a1), (2, .int a2), (6, .long x6), (9, .int x9)]) hx hb dX1_sign_144 hl (by decide) rfl (fun ls hl => ?_)
        refine lv_iinc (v := (x9 + 1)) (lv' := [(9, .int (x9 + 1)), (8, .int x8_6), (0, .ref (ad 0)), (1, .int a1), (2, .int a2), (6, .long x6)]) hx hb dX1_sign_146 hl (k := 5) rfl rfl (by decide) rfl (fun ls hl => ?_)
        refine lv_goto (tgt := 115) hx hb dX1_sign_149 (by decide) ?_
        exact hr115 _ _ _ ls (lv_sub hl [2, 3, 4, 5, 1, 0] rfl) h
set_option maxHeartbeats 4000000 in
set_option maxRecDepth 100000 in
theorem tX1_sign_74 {p : Program} {l : Launch} {e : Env} {s : State} {m : MethodId} {args : Array Value} {below : List Frame} {meth : Method} {c : Code} {dC : Nat → ClassId} {dI : Nat → Nat → Nat} {ad : Nat → Nat} {cA : Nat → ClassId} {nW : Nat} {nH : Nat} {th : Int32} {fn : Int32} {wd : Int32} {dk : Nat → Int32} {mn : Nat → Int32} {cs : Nat → Int64} {nx : Nat → Int32} {gs : Nat → Int32} {pr : Nat → Int64} {ln : Nat → Int32} {wy : Nat → Int32} {ct : Nat → Int64} {bf : Nat → Int64} {sg : Nat → Int64} {my : Nat → Int32} {a1 : Int32} {a2 : Int32} {Post : Int64 → Prop} (hC : zC p s m args meth c cX1_sign wsX1_sign (some .long) 10 RX1) (hK : va_K (dC, dI) vwCl (tX1 cA) s) (hP : va_P (dC, dI) vwCl (wX1 ad cA nW nH th fn wd dk mn cs nx gs pr ln wy ct bf sg my) s.heap) : ∀ (n : Nat), ∀ (x4 : Int32) (x6 : Int64) (x8 : Int32) (ls : Array Slot), lv_has ls 10 [(0, .ref (ad 0)), (1, .int a1), (2, .int a2), (4, .int x4), (6, .long x6), (8, .int x8)] → lX1_sign_74 nW nH wd dk a1 a2 Post n x4 x6 x8 → W p l e ({ frames := 2, cells := 0, slots := 0, locals := 49 } : Room) s m args below meth c s.heap [] 0 0 (MQ below (vp_Sl Post) args s 0 0 (fun _ => False)) (F0 m 74 ls []) := by
  have hC0 := hC
  obtain ⟨hx, hb, hr, hml, hown, hts, hlocks⟩ := hC
  intro n
  induction n with
  | zero =>
    intro x4 x6 x8 ls hl h
    exact h.elim
  | succ n hr74 =>
    intro x4 x6 x8 ls hl h
    have h : bX1_sign_74 nW nH wd dk a1 a2 Post (lX1_sign_74 nW nH wd dk a1 a2 Post n) x4 x6 x8 := h
    unfold bX1_sign_74 at h
    refine lv_iload hx hb dX1_sign_74 (lv_at hl 5 rfl) ?_
    refine lv_iload hx hb dX1_sign_76 (lv_at hl 3 rfl) ?_
    refine lv_icmp_gt (tgt := 109) hx hb dX1_sign_78 (by decide) (fun c => ?_) (fun c => ?_)
    · have h := h.1 c
      refine lv_iconst (v := 0) hx hb dX1_sign_109 (by decide) ?_
      refine lv_istore (lv' := [(8, .int 0), (0, .ref (ad 0)), (1, .int a1), (2, .int a2), (4, .int x4), (6, .long x6)]) hx hb dX1_sign_110 hl (by decide) rfl (fun ls hl => ?_)
      refine lv_iconst (v := 0) hx hb dX1_sign_112 (by decide) ?_
      refine lv_istore (lv' := [(9, .int 0), (8, .int 0), (0, .ref (ad 0)), (1, .int a1), (2, .int a2), (4, .int x4), (6, .long x6)]) hx hb dX1_sign_113 hl (by decide) rfl (fun ls hl => ?_)
      obtain ⟨n_7, h⟩ := h
      exact tX1_sign_115 hC0 hK hP n_7 _ _ _ ls (lv_sub hl [2, 3, 4, 6, 1, 0] rfl) h
    · have h := h.2 c
      refine lv_aload_n hx hb dX1_sign_81 rfl (lv_at hl 0 rfl) ?_
      refine lv_iload hx hb dX1_sign_82 (lv_at hl 5 rfl) ?_
      refine z_cVi (ci := 2) (As := [.int x8]) (rest := []) ⟨hx, hb, hml, hown, hts⟩ (mX1_hasDark l h) (cwV 1 hts gX1_sign_X1_hasDark rfl rfl rfl (by decide +kernel) ⟨Nat.le_of_ble_eq_true rfl, Nat.le_of_ble_eq_true rfl⟩) hK hP 0 rfl rfl rfl rfl hl.1 rfl (Nat.le_of_ble_eq_true rfl) dX1_sign_84 ⟨Nat.le_of_ble_eq_true rfl, Nat.le_of_ble_eq_true rfl⟩ (fun r_8 h => ?_)
      refine lv_if_eq (tgt := 95) hx hb dX1_sign_87 (by decide) (fun c => ?_) (fun c => ?_)
      · have h := h.1 c
        refine lv_lload hx hb dX1_sign_95 (lv_at hl 4 rfl) ?_
        refine lv_ldc2 hx hb hown (hts (.constantLong RX1 88 (5)) (by decide +kernel)) dX1_sign_97 ?_
        refine lv_ladd hx hb dX1_sign_100 ?_
        refine lv_topl (fun x6_9 ex6_9 => ?_)
        have h := h x6_9 ex6_9
        refine lv_lstore (lv' := [(6, .long x6_9), (0, .ref (ad 0)), (1, .int a1), (2, .int a2), (4, .int x4), (8, .int x8)]) hx hb dX1_sign_101 hl (by decide) rfl (fun ls hl => ?_)
        refine lv_iinc (v := (x8 + 1)) (lv' := [(8, .int (x8 + 1)), (6, .long x6_9), (0, .ref (ad 0)), (1, .int a1), (2, .int a2), (4, .int x4)]) hx hb dX1_sign_103 hl (k := 5) rfl rfl (by decide) rfl (fun ls hl => ?_)
        refine lv_goto (tgt := 74) hx hb dX1_sign_106 (by decide) ?_
        exact hr74 _ _ _ ls (lv_sub hl [2, 3, 4, 5, 1, 0] rfl) h
      · have h := h.2 c
        refine lv_lload hx hb dX1_sign_90 (lv_at hl 4 rfl) ?_
        refine lv_goto (tgt := 101) hx hb dX1_sign_92 (by decide) ?_
        refine lv_lstore (lv' := [(6, .long x6), (0, .ref (ad 0)), (1, .int a1), (2, .int a2), (4, .int x4), (8, .int x8)]) hx hb dX1_sign_101 hl (by decide) rfl (fun ls hl => ?_)
        refine lv_iinc (v := (x8 + 1)) (lv' := [(8, .int (x8 + 1)), (6, .long x6), (0, .ref (ad 0)), (1, .int a1), (2, .int a2), (4, .int x4)]) hx hb dX1_sign_103 hl (k := 5) rfl rfl (by decide) rfl (fun ls hl => ?_)
        refine lv_goto (tgt := 74) hx hb dX1_sign_106 (by decide) ?_
        exact hr74 _ _ _ ls (lv_sub hl [2, 3, 4, 5, 1, 0] rfl) h
set_option maxHeartbeats 4000000 in
set_option maxRecDepth 100000 in
theorem tX1_sign_35 {p : Program} {l : Launch} {e : Env} {s : State} {m : MethodId} {args : Array Value} {below : List Frame} {meth : Method} {c : Code} {dC : Nat → ClassId} {dI : Nat → Nat → Nat} {ad : Nat → Nat} {cA : Nat → ClassId} {nW : Nat} {nH : Nat} {th : Int32} {fn : Int32} {wd : Int32} {dk : Nat → Int32} {mn : Nat → Int32} {cs : Nat → Int64} {nx : Nat → Int32} {gs : Nat → Int32} {pr : Nat → Int64} {ln : Nat → Int32} {wy : Nat → Int32} {ct : Nat → Int64} {bf : Nat → Int64} {sg : Nat → Int64} {my : Nat → Int32} {a1 : Int32} {a2 : Int32} {Post : Int64 → Prop} (hC : zC p s m args meth c cX1_sign wsX1_sign (some .long) 10 RX1) (hK : va_K (dC, dI) vwCl (tX1 cA) s) (hP : va_P (dC, dI) vwCl (wX1 ad cA nW nH th fn wd dk mn cs nx gs pr ln wy ct bf sg my) s.heap) : ∀ (n : Nat), ∀ (x3 : Int32) (x4 : Int32) (ls : Array Slot), lv_has ls 10 [(0, .ref (ad 0)), (1, .int a1), (2, .int a2), (3, .int x3), (4, .int x4)] → lX1_sign_35 nW nH wd dk a1 a2 Post n x3 x4 → W p l e ({ frames := 2, cells := 0, slots := 0, locals := 49 } : Room) s m args below meth c s.heap [] 0 0 (MQ below (vp_Sl Post) args s 0 0 (fun _ => False)) (F0 m 35 ls []) := by
  have hC0 := hC
  obtain ⟨hx, hb, hr, hml, hown, hts, hlocks⟩ := hC
  intro n
  induction n with
  | zero =>
    intro x3 x4 ls hl h
    exact h.elim
  | succ n hr35 =>
    intro x3 x4 ls hl h
    have h : bX1_sign_35 nW nH wd dk a1 a2 Post (lX1_sign_35 nW nH wd dk a1 a2 Post n) x3 x4 := h
    unfold bX1_sign_35 at h
    refine lv_aload_n hx hb dX1_sign_35 rfl (lv_at hl 0 rfl) ?_
    refine lv_iload hx hb dX1_sign_36 (lv_at hl 4 rfl) ?_
    refine z_cVi (ci := 2) (As := [.int x4]) (rest := []) ⟨hx, hb, hml, hown, hts⟩ (mX1_hasDark l h) (cwV 1 hts gX1_sign_X1_hasDark rfl rfl rfl (by decide +kernel) ⟨Nat.le_of_ble_eq_true rfl, Nat.le_of_ble_eq_true rfl⟩) hK hP 0 rfl rfl rfl rfl hl.1 rfl (Nat.le_of_ble_eq_true rfl) dX1_sign_38 ⟨Nat.le_of_ble_eq_true rfl, Nat.le_of_ble_eq_true rfl⟩ (fun r_2 h => ?_)
    refine lv_if_ne (tgt := 50) hx hb dX1_sign_41 (by decide) (fun c => ?_) (fun c => ?_)
    · have h := h.2 c
      refine lv_iload hx hb dX1_sign_50 (lv_at hl 4 rfl) ?_
      refine lv_iload_n hx hb dX1_sign_52 rfl (lv_at hl 3 rfl) ?_
      refine lv_isub hx hb dX1_sign_53 ?_
      refine lv_iconst (v := 1) hx hb dX1_sign_54 (by decide) ?_
      refine lv_iadd hx hb dX1_sign_55 ?_
      refine lv_aload_n hx hb dX1_sign_56 rfl (lv_at hl 0 rfl) ?_
      refine va_get (D := (dC, dI)) (ci := 2) (v := .int wd) (C := RX1) (T := TX1) (N := 17) hx hb hts in_X1_sign hown hK hP 0 rfl rfl 16 (by decide) (hts (.fieldLink RX1 85 "SignCutterModel" "wide" "I") (by decide +kernel)) (fun _ h9 => h9) rfl dX1_sign_57 ?_
      refine lv_isub hx hb dX1_sign_60 ?_
      refine lv_topi (fun x5_3 ex5_3 => ?_)
      have h := h x5_3 ex5_3
      refine lv_istore (lv' := [(5, .int x5_3), (0, .ref (ad 0)), (1, .int a1), (2, .int a2), (3, .int x3), (4, .int x4)]) hx hb dX1_sign_61 hl (by decide) rfl (fun ls hl => ?_)
      refine lv_iload hx hb dX1_sign_63 (lv_at hl 0 rfl) ?_
      refine lv_iload hx hb dX1_sign_65 (lv_at hl 0 rfl) ?_
      refine lv_imul hx hb dX1_sign_67 ?_
      refine lv_i2l (v := (Int32.toInt64 (x5_3 * x5_3))) hx hb dX1_sign_68 rfl ?_
      refine lv_topl (fun x6_4 ex6_4 => ?_)
      have h := h x6_4 ex6_4
      refine lv_lstore (lv' := [(6, .long x6_4), (5, .int x5_3), (0, .ref (ad 0)), (1, .int a1), (2, .int a2), (3, .int x3), (4, .int x4)]) hx hb dX1_sign_69 hl (by decide) rfl (fun ls hl => ?_)
      refine lv_iload_n hx hb dX1_sign_71 rfl (lv_at hl 5 rfl) ?_
      refine lv_istore (lv' := [(8, .int x3), (6, .long x6_4), (5, .int x5_3), (0, .ref (ad 0)), (1, .int a1), (2, .int a2), (3, .int x3), (4, .int x4)]) hx hb dX1_sign_72 hl (by decide) rfl (fun ls hl => ?_)
      obtain ⟨n_10, h⟩ := h
      exact tX1_sign_74 hC0 hK hP n_10 _ _ _ ls (lv_sub hl [3, 4, 5, 7, 1, 0] rfl) h
    · have h := h.1 c
      refine lv_iinc (v := (x4 + (-1))) (lv' := [(4, .int (x4 + (-1))), (0, .ref (ad 0)), (1, .int a1), (2, .int a2), (3, .int x3)]) hx hb dX1_sign_44 hl (k := 4) rfl rfl (by decide) rfl (fun ls hl => ?_)
      refine lv_goto (tgt := 35) hx hb dX1_sign_47 (by decide) ?_
      exact hr35 _ _ ls (lv_sub hl [1, 2, 3, 4, 0] rfl) h
set_option maxHeartbeats 4000000 in
set_option maxRecDepth 100000 in
theorem tX1_sign_21 {p : Program} {l : Launch} {e : Env} {s : State} {m : MethodId} {args : Array Value} {below : List Frame} {meth : Method} {c : Code} {dC : Nat → ClassId} {dI : Nat → Nat → Nat} {ad : Nat → Nat} {cA : Nat → ClassId} {nW : Nat} {nH : Nat} {th : Int32} {fn : Int32} {wd : Int32} {dk : Nat → Int32} {mn : Nat → Int32} {cs : Nat → Int64} {nx : Nat → Int32} {gs : Nat → Int32} {pr : Nat → Int64} {ln : Nat → Int32} {wy : Nat → Int32} {ct : Nat → Int64} {bf : Nat → Int64} {sg : Nat → Int64} {my : Nat → Int32} {a1 : Int32} {a2 : Int32} {Post : Int64 → Prop} (hC : zC p s m args meth c cX1_sign wsX1_sign (some .long) 10 RX1) (hK : va_K (dC, dI) vwCl (tX1 cA) s) (hP : va_P (dC, dI) vwCl (wX1 ad cA nW nH th fn wd dk mn cs nx gs pr ln wy ct bf sg my) s.heap) : ∀ (x3 : Int32) (ls : Array Slot), lv_has ls 10 [(0, .ref (ad 0)), (1, .int a1), (2, .int a2), (3, .int x3)] → jX1_sign_21 nW nH wd dk a1 a2 Post x3 → W p l e ({ frames := 2, cells := 0, slots := 0, locals := 49 } : Room) s m args below meth c s.heap [] 0 0 (MQ below (vp_Sl Post) args s 0 0 (fun _ => False)) (F0 m 21 ls []) := by
  have hC0 := hC
  obtain ⟨hx, hb, hr, hml, hown, hts, hlocks⟩ := hC
  intro x3 ls hl h
  unfold jX1_sign_21 at h
  refine lv_iload_n hx hb dX1_sign_21 rfl (lv_at hl 3 rfl) ?_
  refine lv_iload_n hx hb dX1_sign_22 rfl (lv_at hl 2 rfl) ?_
  refine lv_icmp_ne (tgt := 30) hx hb dX1_sign_23 (by decide) (fun c => ?_) (fun c => ?_)
  · have h := h.2 c
    refine lv_iload_n hx hb dX1_sign_30 rfl (lv_at hl 2 rfl) ?_
    refine lv_iconst (v := 1) hx hb dX1_sign_31 (by decide) ?_
    refine lv_isub hx hb dX1_sign_32 ?_
    refine lv_topi (fun x4_1 ex4_1 => ?_)
    have h := h x4_1 ex4_1
    refine lv_istore (lv' := [(4, .int x4_1), (0, .ref (ad 0)), (1, .int a1), (2, .int a2), (3, .int x3)]) hx hb dX1_sign_33 hl (by decide) rfl (fun ls hl => ?_)
    obtain ⟨n_11, h⟩ := h
    exact tX1_sign_35 hC0 hK hP n_11 _ _ ls (lv_sub hl [1, 2, 3, 4, 0] rfl) h
  · have h := h.1 c
    refine lv_ldc2 hx hb hown (hts (.constantLong RX1 83 (-1)) (by decide +kernel)) dX1_sign_26 ?_
    exact W.lret (v := (-1)) hx hb hr (fun t ht hW => ⟨_, rfl, h, ht⟩) (fun q hq => absurd hq List.not_mem_nil) dX1_sign_29
set_option maxHeartbeats 4000000 in
set_option maxRecDepth 100000 in
theorem tX1_sign_2 {p : Program} {l : Launch} {e : Env} {s : State} {m : MethodId} {args : Array Value} {below : List Frame} {meth : Method} {c : Code} {dC : Nat → ClassId} {dI : Nat → Nat → Nat} {ad : Nat → Nat} {cA : Nat → ClassId} {nW : Nat} {nH : Nat} {th : Int32} {fn : Int32} {wd : Int32} {dk : Nat → Int32} {mn : Nat → Int32} {cs : Nat → Int64} {nx : Nat → Int32} {gs : Nat → Int32} {pr : Nat → Int64} {ln : Nat → Int32} {wy : Nat → Int32} {ct : Nat → Int64} {bf : Nat → Int64} {sg : Nat → Int64} {my : Nat → Int32} {a1 : Int32} {a2 : Int32} {Post : Int64 → Prop} (hC : zC p s m args meth c cX1_sign wsX1_sign (some .long) 10 RX1) (hK : va_K (dC, dI) vwCl (tX1 cA) s) (hP : va_P (dC, dI) vwCl (wX1 ad cA nW nH th fn wd dk mn cs nx gs pr ln wy ct bf sg my) s.heap) : ∀ (n : Nat), ∀ (x3 : Int32) (ls : Array Slot), lv_has ls 10 [(0, .ref (ad 0)), (1, .int a1), (2, .int a2), (3, .int x3)] → lX1_sign_2 nW nH wd dk a1 a2 Post n x3 → W p l e ({ frames := 2, cells := 0, slots := 0, locals := 49 } : Room) s m args below meth c s.heap [] 0 0 (MQ below (vp_Sl Post) args s 0 0 (fun _ => False)) (F0 m 2 ls []) := by
  have hC0 := hC
  obtain ⟨hx, hb, hr, hml, hown, hts, hlocks⟩ := hC
  intro n
  induction n with
  | zero =>
    intro x3 ls hl h
    exact h.elim
  | succ n hr2 =>
    intro x3 ls hl h
    have h : bX1_sign_2 nW nH wd dk a1 a2 Post (lX1_sign_2 nW nH wd dk a1 a2 Post n) x3 := h
    unfold bX1_sign_2 at h
    refine lv_iload_n hx hb dX1_sign_2 rfl (lv_at hl 3 rfl) ?_
    refine lv_iload_n hx hb dX1_sign_3 rfl (lv_at hl 2 rfl) ?_
    refine lv_icmp_ge (tgt := 21) hx hb dX1_sign_4 (by decide) (fun c => ?_) (fun c => ?_)
    · have h := h.1 c
      exact tX1_sign_21 hC0 hK hP _ ls (lv_sub hl [0, 1, 2, 3] rfl) h
    · have h := h.2 c
      refine lv_aload_n hx hb dX1_sign_7 rfl (lv_at hl 0 rfl) ?_
      refine lv_iload_n hx hb dX1_sign_8 rfl (lv_at hl 3 rfl) ?_
      refine z_cVi (ci := 2) (As := [.int x3]) (rest := []) ⟨hx, hb, hml, hown, hts⟩ (mX1_hasDark l h) (cwV 1 hts gX1_sign_X1_hasDark rfl rfl rfl (by decide +kernel) ⟨Nat.le_of_ble_eq_true rfl, Nat.le_of_ble_eq_true rfl⟩) hK hP 0 rfl rfl rfl rfl hl.1 rfl (Nat.le_of_ble_eq_true rfl) dX1_sign_9 ⟨Nat.le_of_ble_eq_true rfl, Nat.le_of_ble_eq_true rfl⟩ (fun r_12 h => ?_)
      refine lv_if_ne (tgt := 21) hx hb dX1_sign_12 (by decide) (fun c => ?_) (fun c => ?_)
      · have h := h.2 c
        exact tX1_sign_21 hC0 hK hP _ ls (lv_sub hl [0, 1, 2, 3] rfl) h
      · have h := h.1 c
        refine lv_iinc (v := (x3 + 1)) (lv' := [(3, .int (x3 + 1)), (0, .ref (ad 0)), (1, .int a1), (2, .int a2)]) hx hb dX1_sign_15 hl (k := 3) rfl rfl (by decide) rfl (fun ls hl => ?_)
        refine lv_goto (tgt := 2) hx hb dX1_sign_18 (by decide) ?_
        exact hr2 _ ls (lv_sub hl [1, 2, 3, 0] rfl) h
set_option maxHeartbeats 4000000 in
set_option maxRecDepth 100000 in
theorem mX1_sign (l : Launch) {dC : Nat → ClassId} {dI : Nat → Nat → Nat} {ad : Nat → Nat} {cA : Nat → ClassId} {nW : Nat} {nH : Nat} {th : Int32} {fn : Int32} {wd : Int32} {dk : Nat → Int32} {mn : Nat → Int32} {cs : Nat → Int64} {nx : Nat → Int32} {gs : Nat → Int32} {pr : Nat → Int64} {ln : Nat → Int32} {wy : Nat → Int32} {ct : Nat → Int64} {bf : Nat → Int64} {sg : Nat → Int64} {my : Nat → Int32} {a1 : Int32} {a2 : Int32} {Post : Int64 → Prop} (h : wX1_sign nW nH wd dk a1 a2 Post) : Met l yX1_sign wsX1_sign ({ frames := 2, cells := 0, slots := 0, locals := 49 } : Room) (zPc (dC, dI) vwCl (tX1 cA) (wX1 ad cA nW nH th fn wd dk mn cs nx gs pr ln wy ct bf sg my) [.ref (ad 0), .int a1, .int a2]) (vp_Sl Post) 0 0 (fun _ => False) := by
  refine Met.ofW (cc := cX1_sign) (maxL := 10) (ret := (some .long)) (by decide) rfl ?_
  intro p e s m args below meth c s₁ B hml hv
  obtain ⟨rfl, hP, hK⟩ := hv
  have hC : zC p s m [.ref (ad 0), .int a1, .int a2].toArray meth c cX1_sign wsX1_sign (some .long) 10 RX1 := ⟨B.exec, B.bytes, B.returns, hml, findClass_of_methodNamed B.named, atoms_spec (ws := wsX1_sign) B.pre, B.notSynchronized⟩
  have hC0 := hC
  obtain ⟨hx, hb, hr, hml, hown, hts, hlocks⟩ := hC
  have hl := lv_entry ([.ref (ad 0), .int a1, .int a2]) (n := 10) (Nat.le_of_ble_eq_true rfl)
  rw [lg_entry_eq]
  generalize (lg_sl ([.ref (ad 0), .int a1, .int a2]) ++ List.replicate (10 - (lg_sl ([.ref (ad 0), .int a1, .int a2])).length) Slot.unset).toArray = ls at hl ⊢
  have hl : lv_has ls 10 [(0, .ref (ad 0)), (1, .int a1), (2, .int a2)] := hl
  unfold wX1_sign at h
  refine lv_iload_n hx hb dX1_sign_0 rfl (lv_at hl 1 rfl) ?_
  refine lv_istore_n (lv' := [(3, .int a1), (0, .ref (ad 0)), (1, .int a1), (2, .int a2)]) hx hb dX1_sign_1 rfl hl (by decide) rfl (fun ls hl => ?_)
  obtain ⟨n_13, h⟩ := h
  exact tX1_sign_2 hC0 hK hP n_13 _ ls (lv_sub hl [1, 2, 3, 0] rfl) h
