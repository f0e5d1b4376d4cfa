/-! ===== PRINTED BY wip/gen/gen.py: the machine does what the predicates say ===== -/
set_option maxHeartbeats 4000000 in
set_option maxRecDepth 100000 in
theorem mX0_has (l : Launch) {a0 : Int64} {a2 : Int32} {Post : Int32 → Prop} (h : wX0_has a0 a2 Post) : Met l yX0_has wsX0_has ({ frames := 0, cells := 0, slots := 0, locals := 0 } : Room) (va_Pc [.long a0, .int a2] (fun _ => True)) (vp_Si Post) 0 0 (fun _ => False) := by
  refine Met.ofW (cc := cX0_has) (maxL := 3) (ret := (some .boolean)) (by decide) rfl ?_
  intro p e s m args below meth c s₁ B hml hv
  obtain ⟨rfl, -⟩ := hv
  have hC : zC p s m [.long a0, .int a2].toArray meth c cX0_has wsX0_has (some .boolean) 3 RX0 := ⟨B.exec, B.bytes, B.returns, hml, findClass_of_methodNamed B.named, atoms_spec (ws := wsX0_has) B.pre, B.notSynchronized⟩
  have hC0 := hC
  obtain ⟨hx, hb, hr, hml, hown, hts, hlocks⟩ := hC
  have hl := lv_entry ([.long a0, .int a2]) (n := 3) (Nat.le_of_ble_eq_true rfl)
  rw [lg_entry_eq]
  generalize (lg_sl ([.long a0, .int a2]) ++ List.replicate (3 - (lg_sl ([.long a0, .int a2])).length) Slot.unset).toArray = ls at hl ⊢
  have hl : lv_has ls 3 [(0, .long a0), (2, .int a2)] := hl
  unfold wX0_has at h
  refine lv_lload_n hx hb dX0_has_0 rfl (lv_at hl 0 rfl) ?_
  refine lv_iload_n hx hb dX0_has_1 rfl (lv_at hl 1 rfl) ?_
  refine lv_lushr (v := (zUshr a0 a2)) hx hb dX0_has_2 rfl ?_
  refine lv_lconst (v := 1) hx hb dX0_has_3 (by decide) ?_
  refine lv_land hx hb dX0_has_4 ?_
  refine lv_lconst (v := 0) hx hb dX0_has_5 (by decide) ?_
  refine W.lcmp hx hb dX0_has_6 ?_
  refine lv_if_eq (tgt := 14) hx hb dX0_has_7 (by decide) (fun c => ?_) (fun c => ?_)
  · have h := h.1 c
    refine lv_iconst (v := 0) hx hb dX0_has_14 (by decide) ?_
    exact W.zret (v := 0) hx hb hr rfl (fun t ht hW => ⟨_, rfl, h, ht⟩) (fun q hq => absurd hq List.not_mem_nil) dX0_has_15
  · have h := h.2 c
    refine lv_iconst (v := 1) hx hb dX0_has_10 (by decide) ?_
    refine lv_goto (tgt := 15) hx hb dX0_has_11 (by decide) ?_
    exact W.zret (v := 1) hx hb hr rfl (fun t ht hW => ⟨_, rfl, h, ht⟩) (fun q hq => absurd hq List.not_mem_nil) dX0_has_15
set_option maxHeartbeats 4000000 in
set_option maxRecDepth 100000 in
theorem mX0_shelf (l : Launch) {a0 : Int32} {Post : Int32 → Prop} (h : wX0_shelf a0 Post) : Met l yX0_shelf wsX0_shelf ({ frames := 0, cells := 0, slots := 0, locals := 0 } : Room) (va_Pc [.int a0] (fun _ => True)) (vp_Si Post) 0 0 (fun _ => False) := by
  refine Met.ofW (cc := cX0_shelf) (maxL := 1) (ret := (some .int)) (by decide) rfl ?_
  intro p e s m args below meth c s₁ B hml hv
  obtain ⟨rfl, -⟩ := hv
  have hC : zC p s m [.int a0].toArray meth c cX0_shelf wsX0_shelf (some .int) 1 RX0 := ⟨B.exec, B.bytes, B.returns, hml, findClass_of_methodNamed B.named, atoms_spec (ws := wsX0_shelf) B.pre, B.notSynchronized⟩
  have hC0 := hC
  obtain ⟨hx, hb, hr, hml, hown, hts, hlocks⟩ := hC
  have hl := lv_entry ([.int a0]) (n := 1) (Nat.le_of_ble_eq_true rfl)
  rw [lg_entry_eq]
  generalize (lg_sl ([.int a0]) ++ List.replicate (1 - (lg_sl ([.int a0])).length) Slot.unset).toArray = ls at hl ⊢
  have hl : lv_has ls 1 [(0, .int a0)] := hl
  unfold wX0_shelf at h
  refine lv_iload_n hx hb dX0_shelf_0 rfl (lv_at hl 0 rfl) ?_
  refine lv_bipush (v := 40) hx hb dX0_shelf_1 (by decide) ?_
  refine lv_imul hx hb dX0_shelf_3 ?_
  exact W.iret (v := (a0 * 40)) hx hb hr (fun t ht hW => ⟨_, rfl, h, ht⟩) (fun q hq => absurd hq List.not_mem_nil) dX0_shelf_4
set_option maxHeartbeats 4000000 in
set_option maxRecDepth 100000 in
theorem tX0_signCost_18 {p : Program} {l : Launch} {e : Env} {s : State} {m : MethodId} {args : Array Value} {below : List Frame} {meth : Method} {c : Code} {a0 : Int32} {a1 : Int32} {a2 : Int32} {a3 : Int32} {Post : Int32 → Prop} (hC : zC p s m args meth c cX0_signCost wsX0_signCost (some .int) 6 RX0) : ∀ (x4 : Int32) (s0 : Int32) (ls : Array Slot), lv_has ls 6 [(0, .int a0), (1, .int a1), (2, .int a2), (3, .int a3), (4, .int x4)] → jX0_signCost_18 a0 a1 a2 a3 Post x4 s0 → W p l e ({ frames := 0, cells := 0, slots := 0, locals := 0 } : Room) s m args below meth c s.heap [] 0 0 (MQ below (vp_Si Post) args s 0 0 (fun _ => False)) (F0 m 18 ls [.int s0]) := by
  have hC0 := hC
  obtain ⟨hx, hb, hr, hml, hown, hts, hlocks⟩ := hC
  intro x4 s0 ls hl h
  unfold jX0_signCost_18 at h
  refine lv_istore (lv' := [(5, .int s0), (0, .int a0), (1, .int a1), (2, .int a2), (3, .int a3), (4, .int x4)]) hx hb dX0_signCost_18 hl (by decide) rfl (fun ls hl => ?_)
  refine lv_iload hx hb dX0_signCost_20 (lv_at hl 5 rfl) ?_
  refine lv_iload hx hb dX0_signCost_22 (lv_at hl 5 rfl) ?_
  refine lv_imul hx hb dX0_signCost_24 ?_
  refine lv_iconst (v := 5) hx hb dX0_signCost_25 (by decide) ?_
  refine lv_iload_n hx hb dX0_signCost_26 rfl (lv_at hl 2 rfl) ?_
  refine lv_imul hx hb dX0_signCost_27 ?_
  refine lv_iadd hx hb dX0_signCost_28 ?_
  refine lv_iload hx hb dX0_signCost_29 (lv_at hl 0 rfl) ?_
  refine lv_iadd hx hb dX0_signCost_31 ?_
  exact W.iret (v := (((x4 * x4) + (5 * a1)) + s0)) hx hb hr (fun t ht hW => ⟨_, rfl, h, ht⟩) (fun q hq => absurd hq List.not_mem_nil) dX0_signCost_32
set_option maxHeartbeats 4000000 in
set_option maxRecDepth 100000 in
theorem mX0_signCost (l : Launch) {a0 : Int32} {a1 : Int32} {a2 : Int32} {a3 : Int32} {Post : Int32 → Prop} (h : wX0_signCost a0 a1 a2 a3 Post) : Met l yX0_signCost wsX0_signCost ({ frames := 0, cells := 0, slots := 0, locals := 0 } : Room) (va_Pc [.int a0, .int a1, .int a2, .int a3] (fun _ => True)) (vp_Si Post) 0 0 (fun _ => False) := by
  refine Met.ofW (cc := cX0_signCost) (maxL := 6) (ret := (some .int)) (by decide) rfl ?_
  intro p e s m args below meth c s₁ B hml hv
  obtain ⟨rfl, -⟩ := hv
  have hC : zC p s m [.int a0, .int a1, .int a2, .int a3].toArray meth c cX0_signCost wsX0_signCost (some .int) 6 RX0 := ⟨B.exec, B.bytes, B.returns, hml, findClass_of_methodNamed B.named, atoms_spec (ws := wsX0_signCost) B.pre, B.notSynchronized⟩
  have hC0 := hC
  obtain ⟨hx, hb, hr, hml, hown, hts, hlocks⟩ := hC
  have hl := lv_entry ([.int a0, .int a1, .int a2, .int a3]) (n := 6) (Nat.le_of_ble_eq_true rfl)
  rw [lg_entry_eq]
  generalize (lg_sl ([.int a0, .int a1, .int a2, .int a3]) ++ List.replicate (6 - (lg_sl ([.int a0, .int a1, .int a2, .int a3])).length) Slot.unset).toArray = ls at hl ⊢
  have hl : lv_has ls 6 [(0, .int a0), (1, .int a1), (2, .int a2), (3, .int a3)] := hl
  unfold wX0_signCost at h
  refine lv_iload_n hx hb dX0_signCost_0 rfl (lv_at hl 0 rfl) ?_
  refine lv_iload_n hx hb dX0_signCost_1 rfl (lv_at hl 3 rfl) ?_
  refine lv_isub hx hb dX0_signCost_2 ?_
  refine lv_topi (fun x4_1 ex4_1 => ?_)
  have h := h x4_1 ex4_1
  refine lv_istore (lv' := [(4, .int x4_1), (0, .int a0), (1, .int a1), (2, .int a2), (3, .int a3)]) hx hb dX0_signCost_3 hl (by decide) rfl (fun ls hl => ?_)
  refine lv_iload_n hx hb dX0_signCost_5 rfl (lv_at hl 3 rfl) ?_
  refine lv_if_ne (tgt := 13) hx hb dX0_signCost_6 (by decide) (fun c => ?_) (fun c => ?_)
  · have h := h.2 c
    refine lv_iconst (v := 2) hx hb dX0_signCost_13 (by decide) ?_
    refine lv_iload_n hx hb dX0_signCost_14 rfl (lv_at hl 3 rfl) ?_
    refine lv_iconst (v := 1) hx hb dX0_signCost_15 (by decide) ?_
    refine lv_isub hx hb dX0_signCost_16 ?_
    refine lv_imul hx hb dX0_signCost_17 ?_
    exact tX0_signCost_18 hC0 _ _ ls (lv_sub hl [1, 2, 3, 4, 0] rfl) h
  · have h := h.1 c
    refine lv_iconst (v := 0) hx hb dX0_signCost_9 (by decide) ?_
    refine lv_goto (tgt := 18) hx hb dX0_signCost_10 (by decide) ?_
    exact tX0_signCost_18 hC0 _ _ ls (lv_sub hl [1, 2, 3, 4, 0] rfl) h
theorem in_X0_firstDarkColumn : ∀ w ∈ wsX00, w ∈ wsX0_firstDarkColumn := by decide +kernel
set_option maxHeartbeats 4000000 in
set_option maxRecDepth 100000 in
theorem tX0_firstDarkColumn_2 {p : Program} {l : Launch} {e : Env} {s : State} {m : MethodId} {args : Array Value} {below : List Frame} {meth : Method} {c : Code} {dC : Nat → ClassId} {dI : Nat → Nat → Nat} {ad : Nat → Nat} {cA : Nat → ClassId} {nW : Nat} {nH : Nat} {ff : Int32} {fd : Int32} {cols : Nat → Int64} {rows : Nat → Int64} {ends : Nat → Int64} {ecost : Nat → Int32} {ecnt : Nat → Int32} {tails : Nat → Int32} {longer : Nat → Int32} {Post : Int32 → Prop} (hC : zC p s m args meth c cX0_firstDarkColumn wsX0_firstDarkColumn (some .int) 2 RX0) (hK : va_K (dC, dI) vwCl (tX0 cA) s) (hP : va_P (dC, dI) vwCl (wX0 ad cA nW nH ff fd cols rows ends ecost ecnt tails longer) s.heap) : ∀ (n : Nat), ∀ (x1 : Int32) (ls : Array Slot), lv_has ls 2 [(0, .ref (ad 0)), (1, .int x1)] → lX0_firstDarkColumn_2 nW cols Post n x1 → W p l e ({ frames := 0, cells := 0, slots := 0, locals := 0 } : Room) s m args below meth c s.heap [] 0 0 (MQ below (vp_Si Post) args s 0 0 (fun _ => False)) (F0 m 2 ls []) := by
  have hC0 := hC
  obtain ⟨hx, hb, hr, hml, hown, hts, hlocks⟩ := hC
  intro n
  induction n with
  | zero =>
    intro x1 ls hl h
    exact h.elim
  | succ n hr2 =>
    intro x1 ls hl h
    have h : bX0_firstDarkColumn_2 nW cols Post (lX0_firstDarkColumn_2 nW cols Post n) x1 := h
    unfold bX0_firstDarkColumn_2 at h
    refine lv_iload_n hx hb dX0_firstDarkColumn_2 rfl (lv_at hl 1 rfl) ?_
    refine lv_aload_n hx hb dX0_firstDarkColumn_3 rfl (lv_at hl 0 rfl) ?_
    refine va_get (D := (dC, dI)) (ci := 1) (v := .int (nI nW)) (C := RX0) (T := TX0) (N := 11) hx hb hts in_X0_firstDarkColumn hown hK hP 0 rfl rfl 0 (by decide) (hts (.fieldLink RX0 18 "SignCutter" "width" "I") (by decide +kernel)) (fun _ h9 => h9) rfl dX0_firstDarkColumn_4 ?_
    refine lv_icmp_ge (tgt := 29) hx hb dX0_firstDarkColumn_7 (by decide) (fun c => ?_) (fun c => ?_)
    · have h := h.1 c
      refine lv_iconst (v := (-1)) hx hb dX0_firstDarkColumn_29 (by decide) ?_
      exact W.iret (v := (-1)) hx hb hr (fun t ht hW => ⟨_, rfl, h, ht⟩) (fun q hq => absurd hq List.not_mem_nil) dX0_firstDarkColumn_30
    · have h := h.2 c
      refine lv_aload_n hx hb dX0_firstDarkColumn_10 rfl (lv_at hl 0 rfl) ?_
      refine va_get (D := (dC, dI)) (ci := 1) (v := .ref (ad 1)) (C := RX0) (T := TX0) (N := 11) hx hb hts in_X0_firstDarkColumn hown hK hP 0 rfl rfl 2 (by decide) (hts (.fieldLink RX0 25 "SignCutter" "columns" "[J") (by decide +kernel)) (fun _ h9 => h9) rfl dX0_firstDarkColumn_11 ?_
      refine lv_iload_n hx hb dX0_firstDarkColumn_14 rfl (lv_at hl 1 rfl) ?_
      refine z_lald hx hb hK hP 1 0 rfl rfl h dX0_firstDarkColumn_15 (fun j_1 h => ?_)
      refine lv_lconst (v := 0) hx hb dX0_firstDarkColumn_16 (by decide) ?_
      refine W.lcmp hx hb dX0_firstDarkColumn_17 ?_
      refine lv_if_eq (tgt := 23) hx hb dX0_firstDarkColumn_18 (by decide) (fun c => ?_) (fun c => ?_)
      · have h := h.1 c
        refine lv_iinc (v := (x1 + 1)) (lv' := [(1, .int (x1 + 1)), (0, .ref (ad 0))]) hx hb dX0_firstDarkColumn_23 hl (k := 1) rfl rfl (by decide) rfl (fun ls hl => ?_)
        refine lv_goto (tgt := 2) hx hb dX0_firstDarkColumn_26 (by decide) ?_
        exact hr2 _ ls (lv_sub hl [1, 0] rfl) h
      · have h := h.2 c
        refine lv_iload_n hx hb dX0_firstDarkColumn_21 rfl (lv_at hl 1 rfl) ?_
        exact W.iret (v := x1) hx hb hr (fun t ht hW => ⟨_, rfl, h, ht⟩) (fun q hq => absurd hq List.not_mem_nil) dX0_firstDarkColumn_22
set_option maxHeartbeats 4000000 in
set_option maxRecDepth 100000 in
theorem mX0_firstDarkColumn (l : Launch) {dC : Nat → ClassId} {dI : Nat → Nat → Nat} {ad : Nat → Nat} {cA : Nat → ClassId} {nW : Nat} {nH : Nat} {ff : Int32} {fd : Int32} {cols : Nat → Int64} {rows : Nat → Int64} {ends : Nat → Int64} {ecost : Nat → Int32} {ecnt : Nat → Int32} {tails : Nat → Int32} {longer : Nat → Int32} {Post : Int32 → Prop} (h : wX0_firstDarkColumn nW cols Post) : Met l yX0_firstDarkColumn wsX0_firstDarkColumn ({ frames := 0, cells := 0, slots := 0, locals := 0 } : Room) (zPc (dC, dI) vwCl (tX0 cA) (wX0 ad cA nW nH ff fd cols rows ends ecost ecnt tails longer) [.ref (ad 0)]) (vp_Si Post) 0 0 (fun _ => False) := by
  refine Met.ofW (cc := cX0_firstDarkColumn) (maxL := 2) (ret := (some .int)) (by decide) rfl ?_
  intro p e s m args below meth c s₁ B hml hv
  obtain ⟨rfl, hP, hK⟩ := hv
  have hC : zC p s m [.ref (ad 0)].toArray meth c cX0_firstDarkColumn wsX0_firstDarkColumn (some .int) 2 RX0 := ⟨B.exec, B.bytes, B.returns, hml, findClass_of_methodNamed B.named, atoms_spec (ws := wsX0_firstDarkColumn) B.pre, B.notSynchronized⟩
  have hC0 := hC
  obtain ⟨hx, hb, hr, hml, hown, hts, hlocks⟩ := hC
  have hl := lv_entry ([.ref (ad 0)]) (n := 2) (Nat.le_of_ble_eq_true rfl)
  rw [lg_entry_eq]
  generalize (lg_sl ([.ref (ad 0)]) ++ List.replicate (2 - (lg_sl ([.ref (ad 0)])).length) Slot.unset).toArray = ls at hl ⊢
  have hl : lv_has ls 2 [(0, .ref (ad 0))] := hl
  unfold wX0_firstDarkColumn at h
  refine lv_iconst (v := 0) hx hb dX0_firstDarkColumn_0 (by decide) ?_
  refine lv_istore_n (lv' := [(1, .int 0), (0, .ref (ad 0))]) hx hb dX0_firstDarkColumn_1 rfl hl (by decide) rfl (fun ls hl => ?_)
  obtain ⟨n_2, h⟩ := h
  exact tX0_firstDarkColumn_2 hC0 hK hP n_2 _ ls (lv_sub hl [1, 0] rfl) h
theorem in_X0_lastDarkColumn : ∀ w ∈ wsX00, w ∈ wsX0_lastDarkColumn := by decide +kernel
set_option maxHeartbeats 4000000 in
set_option maxRecDepth 100000 in
theorem tX0_lastDarkColumn_7 {p : Program} {l : Launch} {e : Env} {s : State} {m : MethodId} {args : Array Value} {below : List Frame} {meth : Method} {c : Code} {dC : Nat → ClassId} {dI : Nat → Nat → Nat} {ad : Nat → Nat} {cA : Nat → ClassId} {nW : Nat} {nH : Nat} {ff : Int32} {fd : Int32} {cols : Nat → Int64} {rows : Nat → Int64} {ends : Nat → Int64} {ecost : Nat → Int32} {ecnt : Nat → Int32} {tails : Nat → Int32} {longer : Nat → Int32} {Post : Int32 → Prop} (hC : zC p s m args meth c cX0_lastDarkColumn wsX0_lastDarkColumn (some .int) 2 RX0) (hK : va_K (dC, dI) vwCl (tX0 cA) s) (hP : va_P (dC, dI) vwCl (wX0 ad cA nW nH ff fd cols rows ends ecost ecnt tails longer) s.heap) : ∀ (n : Nat), ∀ (x1 : Int32) (ls : Array Slot), lv_has ls 2 [(0, .ref (ad 0)), (1, .int x1)] → lX0_lastDarkColumn_7 nW cols Post n x1 → W p l e ({ frames := 0, cells := 0, slots := 0, locals := 0 } : Room) s m args below meth c s.heap [] 0 0 (MQ below (vp_Si Post) args s 0 0 (fun _ => False)) (F0 m 7 ls []) := by
  have hC0 := hC
  obtain ⟨hx, hb, hr, hml, hown, hts, hlocks⟩ := hC
  intro n
  induction n with
  | zero =>
    intro x1 ls hl h
    exact h.elim
  | succ n hr7 =>
    intro x1 ls hl h
    have h : bX0_lastDarkColumn_7 nW cols Post (lX0_lastDarkColumn_7 nW cols Post n) x1 := h
    unfold bX0_lastDarkColumn_7 at h
    refine lv_iload_n hx hb dX0_lastDarkColumn_7 rfl (lv_at hl 1 rfl) ?_
    refine lv_if_lt (tgt := 30) hx hb dX0_lastDarkColumn_8 (by decide) (fun c => ?_) (fun c => ?_)
    · have h := h.1 c
      refine lv_iconst (v := (-1)) hx hb dX0_lastDarkColumn_30 (by decide) ?_
      exact W.iret (v := (-1)) hx hb hr (fun t ht hW => ⟨_, rfl, h, ht⟩) (fun q hq => absurd hq List.not_mem_nil) dX0_lastDarkColumn_31
    · have h := h.2 c
      refine lv_aload_n hx hb dX0_lastDarkColumn_11 rfl (lv_at hl 0 rfl) ?_
      refine va_get (D := (dC, dI)) (ci := 1) (v := .ref (ad 1)) (C := RX0) (T := TX0) (N := 11) hx hb hts in_X0_lastDarkColumn hown hK hP 0 rfl rfl 2 (by decide) (hts (.fieldLink RX0 25 "SignCutter" "columns" "[J") (by decide +kernel)) (fun _ h9 => h9) rfl dX0_lastDarkColumn_12 ?_
      refine lv_iload_n hx hb dX0_lastDarkColumn_15 rfl (lv_at hl 1 rfl) ?_
      refine z_lald hx hb hK hP 1 0 rfl rfl h dX0_lastDarkColumn_16 (fun j_2 h => ?_)
      refine lv_lconst (v := 0) hx hb dX0_lastDarkColumn_17 (by decide) ?_
      refine W.lcmp hx hb dX0_lastDarkColumn_18 ?_
      refine lv_if_eq (tgt := 24) hx hb dX0_lastDarkColumn_19 (by decide) (fun c => ?_) (fun c => ?_)
      · have h := h.1 c
        refine lv_iinc (v := (x1 + (-1))) (lv' := [(1, .int (x1 + (-1))), (0, .ref (ad 0))]) hx hb dX0_lastDarkColumn_24 hl (k := 1) rfl rfl (by decide) rfl (fun ls hl => ?_)
        refine lv_goto (tgt := 7) hx hb dX0_lastDarkColumn_27 (by decide) ?_
        exact hr7 _ ls (lv_sub hl [1, 0] rfl) h
      · have h := h.2 c
        refine lv_iload_n hx hb dX0_lastDarkColumn_22 rfl (lv_at hl 1 rfl) ?_
        exact W.iret (v := x1) hx hb hr (fun t ht hW => ⟨_, rfl, h, ht⟩) (fun q hq => absurd hq List.not_mem_nil) dX0_lastDarkColumn_23
set_option maxHeartbeats 4000000 in
set_option maxRecDepth 100000 in
theorem mX0_lastDarkColumn (l : Launch) {dC : Nat → ClassId} {dI : Nat → Nat → Nat} {ad : Nat → Nat} {cA : Nat → ClassId} {nW : Nat} {nH : Nat} {ff : Int32} {fd : Int32} {cols : Nat → Int64} {rows : Nat → Int64} {ends : Nat → Int64} {ecost : Nat → Int32} {ecnt : Nat → Int32} {tails : Nat → Int32} {longer : Nat → Int32} {Post : Int32 → Prop} (h : wX0_lastDarkColumn nW cols Post) : Met l yX0_lastDarkColumn wsX0_lastDarkColumn ({ frames := 0, cells := 0, slots := 0, locals := 0 } : Room) (zPc (dC, dI) vwCl (tX0 cA) (wX0 ad cA nW nH ff fd cols rows ends ecost ecnt tails longer) [.ref (ad 0)]) (vp_Si Post) 0 0 (fun _ => False) := by
  refine Met.ofW (cc := cX0_lastDarkColumn) (maxL := 2) (ret := (some .int)) (by decide) rfl ?_
  intro p e s m args below meth c s₁ B hml hv
  obtain ⟨rfl, hP, hK⟩ := hv
  have hC : zC p s m [.ref (ad 0)].toArray meth c cX0_lastDarkColumn wsX0_lastDarkColumn (some .int) 2 RX0 := ⟨B.exec, B.bytes, B.returns, hml, findClass_of_methodNamed B.named, atoms_spec (ws := wsX0_lastDarkColumn) B.pre, B.notSynchronized⟩
  have hC0 := hC
  obtain ⟨hx, hb, hr, hml, hown, hts, hlocks⟩ := hC
  have hl := lv_entry ([.ref (ad 0)]) (n := 2) (Nat.le_of_ble_eq_true rfl)
  rw [lg_entry_eq]
  generalize (lg_sl ([.ref (ad 0)]) ++ List.replicate (2 - (lg_sl ([.ref (ad 0)])).length) Slot.unset).toArray = ls at hl ⊢
  have hl : lv_has ls 2 [(0, .ref (ad 0))] := hl
  unfold wX0_lastDarkColumn at h
  refine lv_aload_n hx hb dX0_lastDarkColumn_0 rfl (lv_at hl 0 rfl) ?_
  refine va_get (D := (dC, dI)) (ci := 1) (v := .int (nI nW)) (C := RX0) (T := TX0) (N := 11) hx hb hts in_X0_lastDarkColumn hown hK hP 0 rfl rfl 0 (by decide) (hts (.fieldLink RX0 18 "SignCutter" "width" "I") (by decide +kernel)) (fun _ h9 => h9) rfl dX0_lastDarkColumn_1 ?_
  refine lv_iconst (v := 1) hx hb dX0_lastDarkColumn_4 (by decide) ?_
  refine lv_isub hx hb dX0_lastDarkColumn_5 ?_
  refine lv_topi (fun x1_1 ex1_1 => ?_)
  have h := h x1_1 ex1_1
  refine lv_istore_n (lv' := [(1, .int x1_1), (0, .ref (ad 0))]) hx hb dX0_lastDarkColumn_6 rfl hl (by decide) rfl (fun ls hl => ?_)
  obtain ⟨n_3, h⟩ := h
  exact tX0_lastDarkColumn_7 hC0 hK hP n_3 _ ls (lv_sub hl [1, 0] rfl) h
theorem in_X0_darkInRow : ∀ w ∈ wsX00, w ∈ wsX0_darkInRow := by decide +kernel
set_option maxHeartbeats 4000000 in
set_option maxRecDepth 100000 in
theorem mX0_darkInRow (l : Launch) {dC : Nat → ClassId} {dI : Nat → Nat → Nat} {ad : Nat → Nat} {cA : Nat → ClassId} {nW : Nat} {nH : Nat} {ff : Int32} {fd : Int32} {cols : Nat → Int64} {rows : Nat → Int64} {ends : Nat → Int64} {ecost : Nat → Int32} {ecnt : Nat → Int32} {tails : Nat → Int32} {longer : Nat → Int32} {a1 : Int32} {Post : Int32 → Prop} (h : wX0_darkInRow nH rows a1 Post) : Met l yX0_darkInRow wsX0_darkInRow ({ frames := 1, cells := 0, slots := 0, locals := 21 } : Room) (zPc (dC, dI) vwCl (tX0 cA) (wX0 ad cA nW nH ff fd cols rows ends ecost ecnt tails longer) [.ref (ad 0), .int a1]) (vp_Si Post) 0 0 (fun _ => False) := by
  refine Met.ofW (cc := cX0_darkInRow) (maxL := 2) (ret := (some .int)) (by decide) rfl ?_
  intro p e s m args below meth c s₁ B hml hv
  obtain ⟨rfl, hP, hK⟩ := hv
  have hC : zC p s m [.ref (ad 0), .int a1].toArray meth c cX0_darkInRow wsX0_darkInRow (some .int) 2 RX0 := ⟨B.exec, B.bytes, B.returns, hml, findClass_of_methodNamed B.named, atoms_spec (ws := wsX0_darkInRow) B.pre, B.notSynchronized⟩
  have hC0 := hC
  obtain ⟨hx, hb, hr, hml, hown, hts, hlocks⟩ := hC
  have hl := lv_entry ([.ref (ad 0), .int a1]) (n := 2) (Nat.le_of_ble_eq_true rfl)
  rw [lg_entry_eq]
  generalize (lg_sl ([.ref (ad 0), .int a1]) ++ List.replicate (2 - (lg_sl ([.ref (ad 0), .int a1])).length) Slot.unset).toArray = ls at hl ⊢
  have hl : lv_has ls 2 [(0, .ref (ad 0)), (1, .int a1)] := hl
  unfold wX0_darkInRow at h
  refine lv_aload_n hx hb dX0_darkInRow_0 rfl (lv_at hl 0 rfl) ?_
  refine va_get (D := (dC, dI)) (ci := 1) (v := .ref (ad 2)) (C := RX0) (T := TX0) (N := 11) hx hb hts in_X0_darkInRow hown hK hP 0 rfl rfl 3 (by decide) (hts (.fieldLink RX0 29 "SignCutter" "rows" "[J") (by decide +kernel)) (fun _ h9 => h9) rfl dX0_darkInRow_1 ?_
  refine lv_iload_n hx hb dX0_darkInRow_4 rfl (lv_at hl 1 rfl) ?_
  refine z_lald hx hb hK hP 2 1 rfl rfl h dX0_darkInRow_5 (fun j_1 h => ?_)
  refine z_cSi (As := [.long (rows j_1)]) (rest := []) ⟨hx, hb, hml, hown, hts⟩ (mJ13_bitCount_95d88 l h) (va_cwS 1 hts gX0_darkInRow_J13_bitCount_95d88 rfl rfl rfl (by decide +kernel) ⟨Nat.le_of_ble_eq_true rfl, Nat.le_of_ble_eq_true rfl⟩) rfl hl.1 rfl (Nat.le_of_ble_eq_true rfl) dX0_darkInRow_6 ⟨Nat.le_of_ble_eq_true rfl, Nat.le_of_ble_eq_true rfl⟩ (fun r_2 h => ?_)
  exact W.iret (v := r_2) hx hb hr (fun t ht hW => ⟨_, rfl, h, ht⟩) (fun q hq => absurd hq List.not_mem_nil) dX0_darkInRow_9
theorem in_X0_mostDarkInARow : ∀ w ∈ wsX00, w ∈ wsX0_mostDarkInARow := by decide +kernel
set_option maxHeartbeats 4000000 in
set_option maxRecDepth 100000 in
theorem tX0_mostDarkInARow_4 {p : Program} {l : Launch} {e : Env} {s : State} {m : MethodId} {args : Array Value} {below : List Frame} {meth : Method} {c : Code} {dC : Nat → ClassId} {dI : Nat → Nat → Nat} {ad : Nat → Nat} {cA : Nat → ClassId} {nW : Nat} {nH : Nat} {ff : Int32} {fd : Int32} {cols : Nat → Int64} {rows : Nat → Int64} {ends : Nat → Int64} {ecost : Nat → Int32} {ecnt : Nat → Int32} {tails : Nat → Int32} {longer : Nat → Int32} {Post : Int32 → Prop} (hC : zC p s m args meth c cX0_mostDarkInARow wsX0_mostDarkInARow (some .int) 3 RX0) (hK : va_K (dC, dI) vwCl (tX0 cA) s) (hP : va_P (dC, dI) vwCl (wX0 ad cA nW nH ff fd cols rows ends ecost ecnt tails longer) s.heap) : ∀ (n : Nat), ∀ (x1 : Int32) (x2 : Int32) (ls : Array Slot), lv_has ls 3 [(0, .ref (ad 0)), (1, .int x1), (2, .int x2)] → lX0_mostDarkInARow_4 nH rows Post n x1 x2 → W p l e ({ frames := 2, cells := 0, slots := 0, locals := 42 } : Room) s m args below meth c s.heap [] 0 0 (MQ below (vp_Si Post) args s 0 0 (fun _ => False)) (F0 m 4 ls []) := by
  have hC0 := hC
  obtain ⟨hx, hb, hr, hml, hown, hts, hlocks⟩ := hC
  intro n
  induction n with
  | zero =>
    intro x1 x2 ls hl h
    exact h.elim
  | succ n hr4 =>
    intro x1 x2 ls hl h
    have h : bX0_mostDarkInARow_4 nH rows Post (lX0_mostDarkInARow_4 nH rows Post n) x1 x2 := h
    unfold bX0_mostDarkInARow_4 at h
    refine lv_iload_n hx hb dX0_mostDarkInARow_4 rfl (lv_at hl 2 rfl) ?_
    refine lv_aload_n hx hb dX0_mostDarkInARow_5 rfl (lv_at hl 0 rfl) ?_
    refine va_get (D := (dC, dI)) (ci := 1) (v := .int (nI nH)) (C := RX0) (T := TX0) (N := 11) hx hb hts in_X0_mostDarkInARow hown hK hP 0 rfl rfl 1 (by decide) (hts (.fieldLink RX0 22 "SignCutter" "height" "I") (by decide +kernel)) (fun _ h9 => h9) rfl dX0_mostDarkInARow_6 ?_
    refine lv_icmp_ge (tgt := 28) hx hb dX0_mostDarkInARow_9 (by decide) (fun c => ?_) (fun c => ?_)
    · have h := h.1 c
      refine lv_iload_n hx hb dX0_mostDarkInARow_28 rfl (lv_at hl 1 rfl) ?_
      exact W.iret (v := x1) hx hb hr (fun t ht hW => ⟨_, rfl, h, ht⟩) (fun q hq => absurd hq List.not_mem_nil) dX0_mostDarkInARow_29
    · have h := h.2 c
      refine lv_iload_n hx hb dX0_mostDarkInARow_12 rfl (lv_at hl 1 rfl) ?_
      refine lv_aload_n hx hb dX0_mostDarkInARow_13 rfl (lv_at hl 0 rfl) ?_
      refine lv_iload_n hx hb dX0_mostDarkInARow_14 rfl (lv_at hl 2 rfl) ?_
      refine z_cVi (ci := 1) (As := [.int x2]) (rest := [.int x1]) ⟨hx, hb, hml, hown, hts⟩ (mX0_darkInRow l h) (cwV 1 hts gX0_mostDarkInARow_X0_darkInRow rfl rfl rfl (by decide +kernel) ⟨Nat.le_of_ble_eq_true rfl, Nat.le_of_ble_eq_true rfl⟩) hK hP 0 rfl rfl rfl rfl hl.1 rfl (Nat.le_of_ble_eq_true rfl) dX0_mostDarkInARow_15 ⟨Nat.le_of_ble_eq_true rfl, Nat.le_of_ble_eq_true rfl⟩ (fun r_1 h => ?_)
      refine va_mmax hx hb (hml.trans hl.1.symm) hown (hts (.methodLink RX0 15 Lib.Math.max.name) (by decide +kernel)) (hts (.static Lib.Math.max.name) (by decide +kernel)) (hts (.initialized "java/lang/Math") (by decide +kernel)) (hts (.code Lib.Math.max.name Lib.Math.max.code 2 (some .int)) (by decide +kernel)) (Nat.le_of_ble_eq_true rfl) (Nat.le_of_ble_eq_true rfl) (Nat.le_of_ble_eq_true rfl) (Nat.le_of_ble_eq_true rfl) dX0_mostDarkInARow_18 ?_
      refine W.eq (g2 := F0 m 21 ls [.int (zMax x1 r_1)]) rfl ?_
      refine lv_topi (fun x1_2 ex1_2 => ?_)
      have h := h x1_2 ex1_2
      refine lv_istore_n (lv' := [(1, .int x1_2), (0, .ref (ad 0)), (2, .int x2)]) hx hb dX0_mostDarkInARow_21 rfl hl (by decide) rfl (fun ls hl => ?_)
      refine lv_iinc (v := (x2 + 1)) (lv' := [(2, .int (x2 + 1)), (1, .int x1_2), (0, .ref (ad 0))]) hx hb dX0_mostDarkInARow_22 hl (k := 2) rfl rfl (by decide) rfl (fun ls hl => ?_)
      refine lv_goto (tgt := 4) hx hb dX0_mostDarkInARow_25 (by decide) ?_
      exact hr4 _ _ ls (lv_sub hl [2, 1, 0] rfl) h
set_option maxHeartbeats 4000000 in
set_option maxRecDepth 100000 in
theorem mX0_mostDarkInARow (l : Launch) {dC : Nat → ClassId} {dI : Nat → Nat → Nat} {ad : Nat → Nat} {cA : Nat → ClassId} {nW : Nat} {nH : Nat} {ff : Int32} {fd : Int32} {cols : Nat → Int64} {rows : Nat → Int64} {ends : Nat → Int64} {ecost : Nat → Int32} {ecnt : Nat → Int32} {tails : Nat → Int32} {longer : Nat → Int32} {Post : Int32 → Prop} (h : wX0_mostDarkInARow nH rows Post) : Met l yX0_mostDarkInARow wsX0_mostDarkInARow ({ frames := 2, cells := 0, slots := 0, locals := 42 } : Room) (zPc (dC, dI) vwCl (tX0 cA) (wX0 ad cA nW nH ff fd cols rows ends ecost ecnt tails longer) [.ref (ad 0)]) (vp_Si Post) 0 0 (fun _ => False) := by
  refine Met.ofW (cc := cX0_mostDarkInARow) (maxL := 3) (ret := (some .int)) (by decide) rfl ?_
  intro p e s m args below meth c s₁ B hml hv
  obtain ⟨rfl, hP, hK⟩ := hv
  have hC : zC p s m [.ref (ad 0)].toArray meth c cX0_mostDarkInARow wsX0_mostDarkInARow (some .int) 3 RX0 := ⟨B.exec, B.bytes, B.returns, hml, findClass_of_methodNamed B.named, atoms_spec (ws := wsX0_mostDarkInARow) B.pre, B.notSynchronized⟩
  have hC0 := hC
  obtain ⟨hx, hb, hr, hml, hown, hts, hlocks⟩ := hC
  have hl := lv_entry ([.ref (ad 0)]) (n := 3) (Nat.le_of_ble_eq_true rfl)
  rw [lg_entry_eq]
  generalize (lg_sl ([.ref (ad 0)]) ++ List.replicate (3 - (lg_sl ([.ref (ad 0)])).length) Slot.unset).toArray = ls at hl ⊢
  have hl : lv_has ls 3 [(0, .ref (ad 0))] := hl
  unfold wX0_mostDarkInARow at h
  refine lv_iconst (v := 0) hx hb dX0_mostDarkInARow_0 (by decide) ?_
  refine lv_istore_n (lv' := [(1, .int 0), (0, .ref (ad 0))]) hx hb dX0_mostDarkInARow_1 rfl hl (by decide) rfl (fun ls hl => ?_)
  refine lv_iconst (v := 0) hx hb dX0_mostDarkInARow_2 (by decide) ?_
  refine lv_istore_n (lv' := [(2, .int 0), (1, .int 0), (0, .ref (ad 0))]) hx hb dX0_mostDarkInARow_3 rfl hl (by decide) rfl (fun ls hl => ?_)
  obtain ⟨n_3, h⟩ := h
  exact tX0_mostDarkInARow_4 hC0 hK hP n_3 _ _ ls (lv_sub hl [2, 1, 0] rfl) h
theorem in_X0_firstStrongRow : ∀ w ∈ wsX00, w ∈ wsX0_firstStrongRow := by decide +kernel
set_option maxHeartbeats 4000000 in
set_option maxRecDepth 100000 in
theorem tX0_firstStrongRow_7 {p : Program} {l : Launch} {e : Env} {s : State} {m : MethodId} {args : Array Value} {below : List Frame} {meth : Method} {c : Code} {dC : Nat → ClassId} {dI : Nat → Nat → Nat} {ad : Nat → Nat} {cA : Nat → ClassId} {nW : Nat} {nH : Nat} {ff : Int32} {fd : Int32} {cols : Nat → Int64} {rows : Nat → Int64} {ends : Nat → Int64} {ecost : Nat → Int32} {ecnt : Nat → Int32} {tails : Nat → Int32} {longer : Nat → Int32} {Post : Int32 → Prop} (hC : zC p s m args meth c cX0_firstStrongRow wsX0_firstStrongRow (some .int) 3 RX0) (hK : va_K (dC, dI) vwCl (tX0 cA) s) (hP : va_P (dC, dI) vwCl (wX0 ad cA nW nH ff fd cols rows ends ecost ecnt tails longer) s.heap) : ∀ (n : Nat), ∀ (x1 : Int32) (x2 : Int32) (ls : Array Slot), lv_has ls 3 [(0, .ref (ad 0)), (1, .int x1), (2, .int x2)] → lX0_firstStrongRow_7 nH rows Post n x1 x2 → W p l e ({ frames := 3, cells := 0, slots := 0, locals := 64 } : Room) s m args below meth c s.heap [] 0 0 (MQ below (vp_Si Post) args s 0 0 (fun _ => False)) (F0 m 7 ls []) := by
  have hC0 := hC
  obtain ⟨hx, hb, hr, hml, hown, hts, hlocks⟩ := hC
  intro n
  induction n with
  | zero =>
    intro x1 x2 ls hl h
    exact h.elim
  | succ n hr7 =>
    intro x1 x2 ls hl h
    have h : bX0_firstStrongRow_7 nH rows Post (lX0_firstStrongRow_7 nH rows Post n) x1 x2 := h
    unfold bX0_firstStrongRow_7 at h
    refine lv_iload_n hx hb dX0_firstStrongRow_7 rfl (lv_at hl 2 rfl) ?_
    refine lv_aload_n hx hb dX0_firstStrongRow_8 rfl (lv_at hl 0 rfl) ?_
    refine va_get (D := (dC, dI)) (ci := 1) (v := .int (nI nH)) (C := RX0) (T := TX0) (N := 11) hx hb hts in_X0_firstStrongRow hown hK hP 0 rfl rfl 1 (by decide) (hts (.fieldLink RX0 22 "SignCutter" "height" "I") (by decide +kernel)) (fun _ h9 => h9) rfl dX0_firstStrongRow_9 ?_
    refine lv_icmp_ge (tgt := 34) hx hb dX0_firstStrongRow_12 (by decide) (fun c => ?_) (fun c => ?_)
    · have h := h.1 c
      refine lv_iconst (v := (-1)) hx hb dX0_firstStrongRow_34 (by decide) ?_
      exact W.iret (v := (-1)) hx hb hr (fun t ht hW => ⟨_, rfl, h, ht⟩) (fun q hq => absurd hq List.not_mem_nil) dX0_firstStrongRow_35
    · have h := h.2 c
      refine lv_iconst (v := 2) hx hb dX0_firstStrongRow_15 (by decide) ?_
      refine lv_aload_n hx hb dX0_firstStrongRow_16 rfl (lv_at hl 0 rfl) ?_
      refine lv_iload_n hx hb dX0_firstStrongRow_17 rfl (lv_at hl 2 rfl) ?_
      refine z_cVi (ci := 1) (As := [.int x2]) (rest := [.int 2]) ⟨hx, hb, hml, hown, hts⟩ (mX0_darkInRow l h) (cwV 1 hts gX0_firstStrongRow_X0_darkInRow rfl rfl rfl (by decide +kernel) ⟨Nat.le_of_ble_eq_true rfl, Nat.le_of_ble_eq_true rfl⟩) hK hP 0 rfl rfl rfl rfl hl.1 rfl (Nat.le_of_ble_eq_true rfl) dX0_firstStrongRow_18 ⟨Nat.le_of_ble_eq_true rfl, Nat.le_of_ble_eq_true rfl⟩ (fun r_2 h => ?_)
      refine lv_imul hx hb dX0_firstStrongRow_21 ?_
      refine lv_iload_n hx hb dX0_firstStrongRow_22 rfl (lv_at hl 1 rfl) ?_
      refine lv_icmp_lt (tgt := 28) hx hb dX0_firstStrongRow_23 (by decide) (fun c => ?_) (fun c => ?_)
      · have h := h.1 c
        refine lv_iinc (v := (x2 + 1)) (lv' := [(2, .int (x2 + 1)), (0, .ref (ad 0)), (1, .int x1)]) hx hb dX0_firstStrongRow_28 hl (k := 2) rfl rfl (by decide) rfl (fun ls hl => ?_)
        refine lv_goto (tgt := 7) hx hb dX0_firstStrongRow_31 (by decide) ?_
        exact hr7 _ _ ls (lv_sub hl [1, 2, 0] rfl) h
      · have h := h.2 c
        refine lv_iload_n hx hb dX0_firstStrongRow_26 rfl (lv_at hl 2 rfl) ?_
        exact W.iret (v := x2) hx hb hr (fun t ht hW => ⟨_, rfl, h, ht⟩) (fun q hq => absurd hq List.not_mem_nil) dX0_firstStrongRow_27
set_option maxHeartbeats 4000000 in
set_option maxRecDepth 100000 in
theorem mX0_firstStrongRow (l : Launch) {dC : Nat → ClassId} {dI : Nat → Nat → Nat} {ad : Nat → Nat} {cA : Nat → ClassId} {nW : Nat} {nH : Nat} {ff : Int32} {fd : Int32} {cols : Nat → Int64} {rows : Nat → Int64} {ends : Nat → Int64} {ecost : Nat → Int32} {ecnt : Nat → Int32} {tails : Nat → Int32} {longer : Nat → Int32} {Post : Int32 → Prop} (h : wX0_firstStrongRow nH rows Post) : Met l yX0_firstStrongRow wsX0_firstStrongRow ({ frames := 3, cells := 0, slots := 0, locals := 64 } : Room) (zPc (dC, dI) vwCl (tX0 cA) (wX0 ad cA nW nH ff fd cols rows ends ecost ecnt tails longer) [.ref (ad 0)]) (vp_Si Post) 0 0 (fun _ => False) := by
  refine Met.ofW (cc := cX0_firstStrongRow) (maxL := 3) (ret := (some .int)) (by decide) rfl ?_
  intro p e s m args below meth c s₁ B hml hv
  obtain ⟨rfl, hP, hK⟩ := hv
  have hC : zC p s m [.ref (ad 0)].toArray meth c cX0_firstStrongRow wsX0_firstStrongRow (some .int) 3 RX0 := ⟨B.exec, B.bytes, B.returns, hml, findClass_of_methodNamed B.named, atoms_spec (ws := wsX0_firstStrongRow) B.pre, B.notSynchronized⟩
  have hC0 := hC
  obtain ⟨hx, hb, hr, hml, hown, hts, hlocks⟩ := hC
  have hl := lv_entry ([.ref (ad 0)]) (n := 3) (Nat.le_of_ble_eq_true rfl)
  rw [lg_entry_eq]
  generalize (lg_sl ([.ref (ad 0)]) ++ List.replicate (3 - (lg_sl ([.ref (ad 0)])).length) Slot.unset).toArray = ls at hl ⊢
  have hl : lv_has ls 3 [(0, .ref (ad 0))] := hl
  unfold wX0_firstStrongRow at h
  refine lv_aload_n hx hb dX0_firstStrongRow_0 rfl (lv_at hl 0 rfl) ?_
  refine z_cVi (ci := 1) (As := []) (rest := []) ⟨hx, hb, hml, hown, hts⟩ (mX0_mostDarkInARow l h) (cwV 0 hts gX0_firstStrongRow_X0_mostDarkInARow rfl rfl rfl (by decide +kernel) ⟨Nat.le_of_ble_eq_true rfl, Nat.le_of_ble_eq_true rfl⟩) hK hP 0 rfl rfl rfl rfl hl.1 rfl (Nat.le_of_ble_eq_true rfl) dX0_firstStrongRow_1 ⟨Nat.le_of_ble_eq_true rfl, Nat.le_of_ble_eq_true rfl⟩ (fun r_1 h => ?_)
  refine lv_istore_n (lv' := [(1, .int r_1), (0, .ref (ad 0))]) hx hb dX0_firstStrongRow_4 rfl hl (by decide) rfl (fun ls hl => ?_)
  refine lv_iconst (v := 0) hx hb dX0_firstStrongRow_5 (by decide) ?_
  refine lv_istore_n (lv' := [(2, .int 0), (1, .int r_1), (0, .ref (ad 0))]) hx hb dX0_firstStrongRow_6 rfl hl (by decide) rfl (fun ls hl => ?_)
  obtain ⟨n_3, h⟩ := h
  exact tX0_firstStrongRow_7 hC0 hK hP n_3 _ _ ls (lv_sub hl [2, 1, 0] rfl) h
theorem in_X0_lastStrongRow : ∀ w ∈ wsX00, w ∈ wsX0_lastStrongRow := by decide +kernel
set_option maxHeartbeats 4000000 in
set_option maxRecDepth 100000 in
theorem tX0_lastStrongRow_12 {p : Program} {l : Launch} {e : Env} {s : State} {m : MethodId} {args : Array Value} {below : List Frame} {meth : Method} {c : Code} {dC : Nat → ClassId} {dI : Nat → Nat → Nat} {ad : Nat → Nat} {cA : Nat → ClassId} {nW : Nat} {nH : Nat} {ff : Int32} {fd : Int32} {cols : Nat → Int64} {rows : Nat → Int64} {ends : Nat → Int64} {ecost : Nat → Int32} {ecnt : Nat → Int32} {tails : Nat → Int32} {longer : Nat → Int32} {Post : Int32 → Prop} (hC : zC p s m args meth c cX0_lastStrongRow wsX0_lastStrongRow (some .int) 3 RX0) (hK : va_K (dC, dI) vwCl (tX0 cA) s) (hP : va_P (dC, dI) vwCl (wX0 ad cA nW nH ff fd cols rows ends ecost ecnt tails longer) s.heap) : ∀ (n : Nat), ∀ (x1 : Int32) (x2 : Int32) (ls : Array Slot), lv_has ls 3 [(0, .ref (ad 0)), (1, .int x1), (2, .int x2)] → lX0_lastStrongRow_12 nH rows Post n x1 x2 → W p l e ({ frames := 3, cells := 0, slots := 0, locals := 64 } : Room) s m args below meth c s.heap [] 0 0 (MQ below (vp_Si Post) args s 0 0 (fun _ => False)) (F0 m 12 ls []) := by
  have hC0 := hC
  obtain ⟨hx, hb, hr, hml, hown, hts, hlocks⟩ := hC
  intro n
  induction n with
  | zero =>
    intro x1 x2 ls hl h
    exact h.elim
  | succ n hr12 =>
    intro x1 x2 ls hl h
    have h : bX0_lastStrongRow_12 nH rows Post (lX0_lastStrongRow_12 nH rows Post n) x1 x2 := h
    unfold bX0_lastStrongRow_12 at h
    refine lv_iload_n hx hb dX0_lastStrongRow_12 rfl (lv_at hl 2 rfl) ?_
    refine lv_if_lt (tgt := 35) hx hb dX0_lastStrongRow_13 (by decide) (fun c => ?_) (fun c => ?_)
    · have h := h.1 c
      refine lv_iconst (v := (-1)) hx hb dX0_lastStrongRow_35 (by decide) ?_
      exact W.iret (v := (-1)) hx hb hr (fun t ht hW => ⟨_, rfl, h, ht⟩) (fun q hq => absurd hq List.not_mem_nil) dX0_lastStrongRow_36
    · have h := h.2 c
      refine lv_iconst (v := 2) hx hb dX0_lastStrongRow_16 (by decide) ?_
      refine lv_aload_n hx hb dX0_lastStrongRow_17 rfl (lv_at hl 0 rfl) ?_
      refine lv_iload_n hx hb dX0_lastStrongRow_18 rfl (lv_at hl 2 rfl) ?_
      refine z_cVi (ci := 1) (As := [.int x2]) (rest := [.int 2]) ⟨hx, hb, hml, hown, hts⟩ (mX0_darkInRow l h) (cwV 1 hts gX0_lastStrongRow_X0_darkInRow rfl rfl rfl (by decide +kernel) ⟨Nat.le_of_ble_eq_true rfl, Nat.le_of_ble_eq_true rfl⟩) hK hP 0 rfl rfl rfl rfl hl.1 rfl (Nat.le_of_ble_eq_true rfl) dX0_lastStrongRow_19 ⟨Nat.le_of_ble_eq_true rfl, Nat.le_of_ble_eq_true rfl⟩ (fun r_3 h => ?_)
      refine lv_imul hx hb dX0_lastStrongRow_22 ?_
      refine lv_iload_n hx hb dX0_lastStrongRow_23 rfl (lv_at hl 1 rfl) ?_
      refine lv_icmp_lt (tgt := 29) hx hb dX0_lastStrongRow_24 (by decide) (fun c => ?_) (fun c => ?_)
      · have h := h.1 c
        refine lv_iinc (v := (x2 + (-1))) (lv' := [(2, .int (x2 + (-1))), (0, .ref (ad 0)), (1, .int x1)]) hx hb dX0_lastStrongRow_29 hl (k := 2) rfl rfl (by decide) rfl (fun ls hl => ?_)
        refine lv_goto (tgt := 12) hx hb dX0_lastStrongRow_32 (by decide) ?_
        exact hr12 _ _ ls (lv_sub hl [1, 2, 0] rfl) h
      · have h := h.2 c
        refine lv_iload_n hx hb dX0_lastStrongRow_27 rfl (lv_at hl 2 rfl) ?_
        exact W.iret (v := x2) hx hb hr (fun t ht hW => ⟨_, rfl, h, ht⟩) (fun q hq => absurd hq List.not_mem_nil) dX0_lastStrongRow_28
set_option maxHeartbeats 4000000 in
set_option maxRecDepth 100000 in
theorem mX0_lastStrongRow (l : Launch) {dC : Nat → ClassId} {dI : Nat → Nat → Nat} {ad : Nat → Nat} {cA : Nat → ClassId} {nW : Nat} {nH : Nat} {ff : Int32} {fd : Int32} {cols : Nat → Int64} {rows : Nat → Int64} {ends : Nat → Int64} {ecost : Nat → Int32} {ecnt : Nat → Int32} {tails : Nat → Int32} {longer : Nat → Int32} {Post : Int32 → Prop} (h : wX0_lastStrongRow nH rows Post) : Met l yX0_lastStrongRow wsX0_lastStrongRow ({ frames := 3, cells := 0, slots := 0, locals := 64 } : Room) (zPc (dC, dI) vwCl (tX0 cA) (wX0 ad cA nW nH ff fd cols rows ends ecost ecnt tails longer) [.ref (ad 0)]) (vp_Si Post) 0 0 (fun _ => False) := by
  refine Met.ofW (cc := cX0_lastStrongRow) (maxL := 3) (ret := (some .int)) (by decide) rfl ?_
  intro p e s m args below meth c s₁ B hml hv
  obtain ⟨rfl, hP, hK⟩ := hv
  have hC : zC p s m [.ref (ad 0)].toArray meth c cX0_lastStrongRow wsX0_lastStrongRow (some .int) 3 RX0 := ⟨B.exec, B.bytes, B.returns, hml, findClass_of_methodNamed B.named, atoms_spec (ws := wsX0_lastStrongRow) B.pre, B.notSynchronized⟩
  have hC0 := hC
  obtain ⟨hx, hb, hr, hml, hown, hts, hlocks⟩ := hC
  have hl := lv_entry ([.ref (ad 0)]) (n := 3) (Nat.le_of_ble_eq_true rfl)
  rw [lg_entry_eq]
  generalize (lg_sl ([.ref (ad 0)]) ++ List.replicate (3 - (lg_sl ([.ref (ad 0)])).length) Slot.unset).toArray = ls at hl ⊢
  have hl : lv_has ls 3 [(0, .ref (ad 0))] := hl
  unfold wX0_lastStrongRow at h
  refine lv_aload_n hx hb dX0_lastStrongRow_0 rfl (lv_at hl 0 rfl) ?_
  refine z_cVi (ci := 1) (As := []) (rest := []) ⟨hx, hb, hml, hown, hts⟩ (mX0_mostDarkInARow l h) (cwV 0 hts gX0_lastStrongRow_X0_mostDarkInARow rfl rfl rfl (by decide +kernel) ⟨Nat.le_of_ble_eq_true rfl, Nat.le_of_ble_eq_true rfl⟩) hK hP 0 rfl rfl rfl rfl hl.1 rfl (Nat.le_of_ble_eq_true rfl) dX0_lastStrongRow_1 ⟨Nat.le_of_ble_eq_true rfl, Nat.le_of_ble_eq_true rfl⟩ (fun r_1 h => ?_)
  refine lv_istore_n (lv' := [(1, .int r_1), (0, .ref (ad 0))]) hx hb dX0_lastStrongRow_4 rfl hl (by decide) rfl (fun ls hl => ?_)
  refine lv_aload_n hx hb dX0_lastStrongRow_5 rfl (lv_at hl 1 rfl) ?_
  refine va_get (D := (dC, dI)) (ci := 1) (v := .int (nI nH)) (C := RX0) (T := TX0) (N := 11) hx hb hts in_X0_lastStrongRow hown hK hP 0 rfl rfl 1 (by decide) (hts (.fieldLink RX0 22 "SignCutter" "height" "I") (by decide +kernel)) (fun _ h9 => h9) rfl dX0_lastStrongRow_6 ?_
  refine lv_iconst (v := 1) hx hb dX0_lastStrongRow_9 (by decide) ?_
  refine lv_isub hx hb dX0_lastStrongRow_10 ?_
  refine lv_topi (fun x2_2 ex2_2 => ?_)
  have h := h x2_2 ex2_2
  refine lv_istore_n (lv' := [(2, .int x2_2), (1, .int r_1), (0, .ref (ad 0))]) hx hb dX0_lastStrongRow_11 rfl hl (by decide) rfl (fun ls hl => ?_)
  obtain ⟨n_4, h⟩ := h
  exact tX0_lastStrongRow_12 hC0 hK hP n_4 _ _ ls (lv_sub hl [2, 1, 0] rfl) h
theorem in_X0_dueWidth : ∀ w ∈ wsX00, w ∈ wsX0_dueWidth := by decide +kernel
set_option maxHeartbeats 4000000 in
set_option maxRecDepth 100000 in
theorem mX0_dueWidth (l : Launch) {dC : Nat → ClassId} {dI : Nat → Nat → Nat} {ad : Nat → Nat} {cA : Nat → ClassId} {nW : Nat} {nH : Nat} {ff : Int32} {fd : Int32} {cols : Nat → Int64} {rows : Nat → Int64} {ends : Nat → Int64} {ecost : Nat → Int32} {ecnt : Nat → Int32} {tails : Nat → Int32} {longer : Nat → Int32} {Post : Int32 → Prop} (h : wX0_dueWidth nH rows Post) : Met l yX0_dueWidth wsX0_dueWidth ({ frames := 4, cells := 0, slots := 0, locals := 86 } : Room) (zPc (dC, dI) vwCl (tX0 cA) (wX0 ad cA nW nH ff fd cols rows ends ecost ecnt tails longer) [.ref (ad 0)]) (vp_Si Post) 0 0 (fun _ => False) := by
  refine Met.ofW (cc := cX0_dueWidth) (maxL := 1) (ret := (some .int)) (by decide) rfl ?_
  intro p e s m args below meth c s₁ B hml hv
  obtain ⟨rfl, hP, hK⟩ := hv
  have hC : zC p s m [.ref (ad 0)].toArray meth c cX0_dueWidth wsX0_dueWidth (some .int) 1 RX0 := ⟨B.exec, B.bytes, B.returns, hml, findClass_of_methodNamed B.named, atoms_spec (ws := wsX0_dueWidth) B.pre, B.notSynchronized⟩
  have hC0 := hC
  obtain ⟨hx, hb, hr, hml, hown, hts, hlocks⟩ := hC
  have hl := lv_entry ([.ref (ad 0)]) (n := 1) (Nat.le_of_ble_eq_true rfl)
  rw [lg_entry_eq]
  generalize (lg_sl ([.ref (ad 0)]) ++ List.replicate (1 - (lg_sl ([.ref (ad 0)])).length) Slot.unset).toArray = ls at hl ⊢
  have hl : lv_has ls 1 [(0, .ref (ad 0))] := hl
  unfold wX0_dueWidth at h
  refine lv_aload_n hx hb dX0_dueWidth_0 rfl (lv_at hl 0 rfl) ?_
  refine z_cVi (ci := 1) (As := []) (rest := []) ⟨hx, hb, hml, hown, hts⟩ (mX0_lastStrongRow l h) (cwV 0 hts gX0_dueWidth_X0_lastStrongRow rfl rfl rfl (by decide +kernel) ⟨Nat.le_of_ble_eq_true rfl, Nat.le_of_ble_eq_true rfl⟩) hK hP 0 rfl rfl rfl rfl hl.1 rfl (Nat.le_of_ble_eq_true rfl) dX0_dueWidth_1 ⟨Nat.le_of_ble_eq_true rfl, Nat.le_of_ble_eq_true rfl⟩ (fun r_1 h => ?_)
  refine lv_aload_n hx hb dX0_dueWidth_4 rfl (lv_at hl 0 rfl) ?_
  refine z_cVi (ci := 1) (As := []) (rest := [.int r_1]) ⟨hx, hb, hml, hown, hts⟩ (mX0_firstStrongRow l h) (cwV 0 hts gX0_dueWidth_X0_firstStrongRow rfl rfl rfl (by decide +kernel) ⟨Nat.le_of_ble_eq_true rfl, Nat.le_of_ble_eq_true rfl⟩) hK hP 0 rfl rfl rfl rfl hl.1 rfl (Nat.le_of_ble_eq_true rfl) dX0_dueWidth_5 ⟨Nat.le_of_ble_eq_true rfl, Nat.le_of_ble_eq_true rfl⟩ (fun r_2 h => ?_)
  refine lv_isub hx hb dX0_dueWidth_8 ?_
  refine lv_iconst (v := 3) hx hb dX0_dueWidth_9 (by decide) ?_
  refine lv_imul hx hb dX0_dueWidth_10 ?_
  refine lv_iconst (v := 4) hx hb dX0_dueWidth_11 (by decide) ?_
  refine lv_idiv hx hb dX0_dueWidth_12 (by decide) ?_
  refine lv_iconst (v := 2) hx hb dX0_dueWidth_13 (by decide) ?_
  refine lv_iadd hx hb dX0_dueWidth_14 ?_
  exact W.iret (v := ((((r_1 - r_2) * 3) / 4) + 2)) hx hb hr (fun t ht hW => ⟨_, rfl, h, ht⟩) (fun q hq => absurd hq List.not_mem_nil) dX0_dueWidth_15
theorem in_X0_shearedColumns : ∀ w ∈ wsX00, w ∈ wsX0_shearedColumns := by decide +kernel
set_option maxHeartbeats 4000000 in
set_option maxRecDepth 100000 in
theorem tX0_shearedColumns_8 {p : Program} {l : Launch} {e : Env} {s : State} {m : MethodId} {args : Array Value} {below : List Frame} {meth : Method} {c : Code} {dC : Nat → ClassId} {dI : Nat → Nat → Nat} {ad : Nat → Nat} {cA : Nat → ClassId} {nW : Nat} {nH : Nat} {ff : Int32} {fd : Int32} {cols : Nat → Int64} {rows : Nat → Int64} {ends : Nat → Int64} {ecost : Nat → Int32} {ecnt : Nat → Int32} {tails : Nat → Int32} {longer : Nat → Int32} {a1 : Int32} {Post : Int32 → Prop} (hC : zC p s m args meth c cX0_shearedColumns wsX0_shearedColumns (some .int) 8 RX0) (hK : va_K (dC, dI) vwCl (tX0 cA) s) (hP : va_P (dC, dI) vwCl (wX0 ad cA nW nH ff fd cols rows ends ecost ecnt tails longer) s.heap) : ∀ (n : Nat), ∀ (x2 : Int64) (x4 : Int64) (x6 : Int32) (ls : Array Slot), lv_has ls 8 [(0, .ref (ad 0)), (1, .int a1), (2, .long x2), (4, .long x4), (6, .int x6)] → lX0_shearedColumns_8 nH rows a1 Post n x2 x4 x6 → W p l e ({ frames := 1, cells := 0, slots := 0, locals := 22 } : Room) s m args below meth c s.heap [] 0 0 (MQ below (vp_Si Post) args s 0 0 (fun _ => False)) (F0 m 8 ls []) := by
  have hC0 := hC
  obtain ⟨hx, hb, hr, hml, hown, hts, hlocks⟩ := hC
  intro n
  induction n with
  | zero =>
    intro x2 x4 x6 ls hl h
    exact h.elim
  | succ n hr8 =>
    intro x2 x4 x6 ls hl h
    have h : bX0_shearedColumns_8 nH rows a1 Post (lX0_shearedColumns_8 nH rows a1 Post n) x2 x4 x6 := h
    unfold bX0_shearedColumns_8 at h
    refine lv_iload hx hb dX0_shearedColumns_8 (lv_at hl 4 rfl) ?_
    refine lv_aload_n hx hb dX0_shearedColumns_10 rfl (lv_at hl 0 rfl) ?_
    refine va_get (D := (dC, dI)) (ci := 1) (v := .int (nI nH)) (C := RX0) (T := TX0) (N := 11) hx hb hts in_X0_shearedColumns hown hK hP 0 rfl rfl 1 (by decide) (hts (.fieldLink RX0 22 "SignCutter" "height" "I") (by decide +kernel)) (fun _ h9 => h9) rfl dX0_shearedColumns_11 ?_
    refine lv_icmp_ge (tgt := 77) hx hb dX0_shearedColumns_14 (by decide) (fun c => ?_) (fun c => ?_)
    · have h := h.1 c
      refine lv_lload_n hx hb dX0_shearedColumns_77 rfl (lv_at hl 2 rfl) ?_
      refine z_cSi (As := [.long x2]) (rest := []) ⟨hx, hb, hml, hown, hts⟩ (mJ13_bitCount_95d88 l h) (va_cwS 1 hts gX0_shearedColumns_J13_bitCount_95d88 rfl rfl rfl (by decide +kernel) ⟨Nat.le_of_ble_eq_true rfl, Nat.le_of_ble_eq_true rfl⟩) rfl hl.1 rfl (Nat.le_of_ble_eq_true rfl) dX0_shearedColumns_78 ⟨Nat.le_of_ble_eq_true rfl, Nat.le_of_ble_eq_true rfl⟩ (fun r_1 h => ?_)
      refine lv_lload hx hb dX0_shearedColumns_81 (lv_at hl 3 rfl) ?_
      refine z_cSi (As := [.long x4]) (rest := [.int r_1]) ⟨hx, hb, hml, hown, hts⟩ (mJ13_bitCount_95d88 l h) (va_cwS 1 hts gX0_shearedColumns_J13_bitCount_95d88 rfl rfl rfl (by decide +kernel) ⟨Nat.le_of_ble_eq_true rfl, Nat.le_of_ble_eq_true rfl⟩) rfl hl.1 rfl (Nat.le_of_ble_eq_true rfl) dX0_shearedColumns_83 ⟨Nat.le_of_ble_eq_true rfl, Nat.le_of_ble_eq_true rfl⟩ (fun r_2 h => ?_)
      refine lv_iadd hx hb dX0_shearedColumns_86 ?_
      exact W.iret (v := (r_1 + r_2)) hx hb hr (fun t ht hW => ⟨_, rfl, h, ht⟩) (fun q hq => absurd hq List.not_mem_nil) dX0_shearedColumns_87
    · have h := h.2 c
      refine lv_bipush (v := 30) hx hb dX0_shearedColumns_17 (by decide) ?_
      refine lv_iload_n hx hb dX0_shearedColumns_19 rfl (lv_at hl 1 rfl) ?_
      refine lv_aload_n hx hb dX0_shearedColumns_20 rfl (lv_at hl 0 rfl) ?_
      refine va_get (D := (dC, dI)) (ci := 1) (v := .int (nI nH)) (C := RX0) (T := TX0) (N := 11) hx hb hts in_X0_shearedColumns hown hK hP 0 rfl rfl 1 (by decide) (hts (.fieldLink RX0 22 "SignCutter" "height" "I") (by decide +kernel)) (fun _ h9 => h9) rfl dX0_shearedColumns_21 ?_
      refine lv_iconst (v := 1) hx hb dX0_shearedColumns_24 (by decide) ?_
      refine lv_isub hx hb dX0_shearedColumns_25 ?_
      refine lv_iload hx hb dX0_shearedColumns_26 (lv_at hl 4 rfl) ?_
      refine lv_isub hx hb dX0_shearedColumns_28 ?_
      refine lv_imul hx hb dX0_shearedColumns_29 ?_
      refine lv_bipush (v := 8) hx hb dX0_shearedColumns_30 (by decide) ?_
      refine z_cSi (As := [.int (a1 * (((nI nH) - 1) - x6)), .int 8]) (rest := [.int 30]) ⟨hx, hb, hml, hown, hts⟩ (mJ9_floorDiv_7cf53 l h) (va_cwS 2 hts gX0_shearedColumns_J9_floorDiv_7cf53 rfl rfl rfl (by decide +kernel) ⟨Nat.le_of_ble_eq_true rfl, Nat.le_of_ble_eq_true rfl⟩) rfl hl.1 rfl (Nat.le_of_ble_eq_true rfl) dX0_shearedColumns_32 ⟨Nat.le_of_ble_eq_true rfl, Nat.le_of_ble_eq_true rfl⟩ (fun r_3 h => ?_)
      refine lv_iadd hx hb dX0_shearedColumns_35 ?_
      refine lv_topi (fun x7_4 ex7_4 => ?_)
      have h := h x7_4 ex7_4
      refine lv_istore (lv' := [(7, .int x7_4), (0, .ref (ad 0)), (1, .int a1), (2, .long x2), (4, .long x4), (6, .int x6)]) hx hb dX0_shearedColumns_36 hl (by decide) rfl (fun ls hl => ?_)
      refine lv_lload_n hx hb dX0_shearedColumns_38 rfl (lv_at hl 3 rfl) ?_
      refine lv_aload_n hx hb dX0_shearedColumns_39 rfl (lv_at hl 1 rfl) ?_
      refine va_get (D := (dC, dI)) (ci := 1) (v := .ref (ad 2)) (C := RX0) (T := TX0) (N := 11) hx hb hts in_X0_shearedColumns hown hK hP 0 rfl rfl 3 (by decide) (hts (.fieldLink RX0 29 "SignCutter" "rows" "[J") (by decide +kernel)) (fun _ h9 => h9) rfl dX0_shearedColumns_40 ?_
      refine lv_iload hx hb dX0_shearedColumns_43 (lv_at hl 5 rfl) ?_
      refine z_lald hx hb hK hP 2 1 rfl rfl h dX0_shearedColumns_45 (fun j_5 h => ?_)
      refine lv_iload hx hb dX0_shearedColumns_46 (lv_at hl 0 rfl) ?_
      refine lv_lshl (v := (zShl (rows j_5) x7_4)) hx hb dX0_shearedColumns_48 rfl ?_
      refine lv_lor hx hb dX0_shearedColumns_49 ?_
      refine lv_topl (fun x2_6 ex2_6 => ?_)
      have h := h x2_6 ex2_6
      refine lv_lstore_n (lv' := [(2, .long x2_6), (7, .int x7_4), (0, .ref (ad 0)), (1, .int a1), (4, .long x4), (6, .int x6)]) hx hb dX0_shearedColumns_50 rfl hl (by decide) rfl (fun ls hl => ?_)
      refine lv_lload hx hb dX0_shearedColumns_51 (lv_at hl 4 rfl) ?_
      refine lv_aload_n hx hb dX0_shearedColumns_53 rfl (lv_at hl 2 rfl) ?_
      refine va_get (D := (dC, dI)) (ci := 1) (v := .ref (ad 2)) (C := RX0) (T := TX0) (N := 11) hx hb hts in_X0_shearedColumns hown hK hP 0 rfl rfl 3 (by decide) (hts (.fieldLink RX0 29 "SignCutter" "rows" "[J") (by decide +kernel)) (fun _ h9 => h9) rfl dX0_shearedColumns_54 ?_
      refine lv_iload hx hb dX0_shearedColumns_57 (lv_at hl 5 rfl) ?_
      refine z_lald hx hb hK hP 2 1 rfl rfl h dX0_shearedColumns_59 (fun j_7 h => ?_)
      refine lv_iconst (v := 1) hx hb dX0_shearedColumns_60 (by decide) ?_
      refine lv_lushr (v := (zUshr (rows j_7) 1)) hx hb dX0_shearedColumns_61 rfl ?_
      refine lv_bipush (v := 63) hx hb dX0_shearedColumns_62 (by decide) ?_
      refine lv_iload hx hb dX0_shearedColumns_64 (lv_at hl 1 rfl) ?_
      refine lv_isub hx hb dX0_shearedColumns_66 ?_
      refine lv_lushr (v := (zUshr (zUshr (rows j_7) 1) (63 - x7_4))) hx hb dX0_shearedColumns_67 rfl ?_
      refine lv_lor hx hb dX0_shearedColumns_68 ?_
      refine lv_topl (fun x4_8 ex4_8 => ?_)
      have h := h x4_8 ex4_8
      refine lv_lstore (lv' := [(4, .long x4_8), (2, .long x2_6), (7, .int x7_4), (0, .ref (ad 0)), (1, .int a1), (6, .int x6)]) hx hb dX0_shearedColumns_69 hl (by decide) rfl (fun ls hl => ?_)
      refine lv_iinc (v := (x6 + 1)) (lv' := [(6, .int (x6 + 1)), (4, .long x4_8), (2, .long x2_6), (7, .int x7_4), (0, .ref (ad 0)), (1, .int a1)]) hx hb dX0_shearedColumns_71 hl (k := 5) rfl rfl (by decide) rfl (fun ls hl => ?_)
      refine lv_goto (tgt := 8) hx hb dX0_shearedColumns_74 (by decide) ?_
      exact hr8 _ _ _ ls (lv_sub hl [4, 5, 2, 1, 0] rfl) h
set_option maxHeartbeats 4000000 in
set_option maxRecDepth 100000 in
theorem mX0_shearedColumns (l : Launch) {dC : Nat → ClassId} {dI : Nat → Nat → Nat} {ad : Nat → Nat} {cA : Nat → ClassId} {nW : Nat} {nH : Nat} {ff : Int32} {fd : Int32} {cols : Nat → Int64} {rows : Nat → Int64} {ends : Nat → Int64} {ecost : Nat → Int32} {ecnt : Nat → Int32} {tails : Nat → Int32} {longer : Nat → Int32} {a1 : Int32} {Post : Int32 → Prop} (h : wX0_shearedColumns nH rows a1 Post) : Met l yX0_shearedColumns wsX0_shearedColumns ({ frames := 1, cells := 0, slots := 0, locals := 22 } : Room) (zPc (dC, dI) vwCl (tX0 cA) (wX0 ad cA nW nH ff fd cols rows ends ecost ecnt tails longer) [.ref (ad 0), .int a1]) (vp_Si Post) 0 0 (fun _ => False) := by
  refine Met.ofW (cc := cX0_shearedColumns) (maxL := 8) (ret := (some .int)) (by decide) rfl ?_
  intro p e s m args below meth c s₁ B hml hv
  obtain ⟨rfl, hP, hK⟩ := hv
  have hC : zC p s m [.ref (ad 0), .int a1].toArray meth c cX0_shearedColumns wsX0_shearedColumns (some .int) 8 RX0 := ⟨B.exec, B.bytes, B.returns, hml, findClass_of_methodNamed B.named, atoms_spec (ws := wsX0_shearedColumns) B.pre, B.notSynchronized⟩
  have hC0 := hC
  obtain ⟨hx, hb, hr, hml, hown, hts, hlocks⟩ := hC
  have hl := lv_entry ([.ref (ad 0), .int a1]) (n := 8) (Nat.le_of_ble_eq_true rfl)
  rw [lg_entry_eq]
  generalize (lg_sl ([.ref (ad 0), .int a1]) ++ List.replicate (8 - (lg_sl ([.ref (ad 0), .int a1])).length) Slot.unset).toArray = ls at hl ⊢
  have hl : lv_has ls 8 [(0, .ref (ad 0)), (1, .int a1)] := hl
  unfold wX0_shearedColumns at h
  refine lv_lconst (v := 0) hx hb dX0_shearedColumns_0 (by decide) ?_
  refine lv_lstore_n (lv' := [(2, .long 0), (0, .ref (ad 0)), (1, .int a1)]) hx hb dX0_shearedColumns_1 rfl hl (by decide) rfl (fun ls hl => ?_)
  refine lv_lconst (v := 0) hx hb dX0_shearedColumns_2 (by decide) ?_
  refine lv_lstore (lv' := [(4, .long 0), (2, .long 0), (0, .ref (ad 0)), (1, .int a1)]) hx hb dX0_shearedColumns_3 hl (by decide) rfl (fun ls hl => ?_)
  refine lv_iconst (v := 0) hx hb dX0_shearedColumns_5 (by decide) ?_
  refine lv_istore (lv' := [(6, .int 0), (4, .long 0), (2, .long 0), (0, .ref (ad 0)), (1, .int a1)]) hx hb dX0_shearedColumns_6 hl (by decide) rfl (fun ls hl => ?_)
  obtain ⟨n_9, h⟩ := h
  exact tX0_shearedColumns_8 hC0 hK hP n_9 _ _ _ ls (lv_sub hl [3, 4, 2, 1, 0] rfl) h
theorem in_X0_touch : ∀ w ∈ wsX00, w ∈ wsX0_touch := by decide +kernel
set_option maxHeartbeats 4000000 in
set_option maxRecDepth 100000 in
theorem mX0_touch (l : Launch) {dC : Nat → ClassId} {dI : Nat → Nat → Nat} {ad : Nat → Nat} {cA : Nat → ClassId} {nW : Nat} {nH : Nat} {ff : Int32} {fd : Int32} {cols : Nat → Int64} {rows : Nat → Int64} {ends : Nat → Int64} {ecost : Nat → Int32} {ecnt : Nat → Int32} {tails : Nat → Int32} {longer : Nat → Int32} {a1 : Int32} {Post : Int32 → Prop} (h : wX0_touch nW cols a1 Post) : Met l yX0_touch wsX0_touch ({ frames := 1, cells := 0, slots := 0, locals := 21 } : Room) (zPc (dC, dI) vwCl (tX0 cA) (wX0 ad cA nW nH ff fd cols rows ends ecost ecnt tails longer) [.ref (ad 0), .int a1]) (vp_Si Post) 0 0 (fun _ => False) := by
  refine Met.ofW (cc := cX0_touch) (maxL := 2) (ret := (some .int)) (by decide) rfl ?_
  intro p e s m args below meth c s₁ B hml hv
  obtain ⟨rfl, hP, hK⟩ := hv
  have hC : zC p s m [.ref (ad 0), .int a1].toArray meth c cX0_touch wsX0_touch (some .int) 2 RX0 := ⟨B.exec, B.bytes, B.returns, hml, findClass_of_methodNamed B.named, atoms_spec (ws := wsX0_touch) B.pre, B.notSynchronized⟩
  have hC0 := hC
  obtain ⟨hx, hb, hr, hml, hown, hts, hlocks⟩ := hC
  have hl := lv_entry ([.ref (ad 0), .int a1]) (n := 2) (Nat.le_of_ble_eq_true rfl)
  rw [lg_entry_eq]
  generalize (lg_sl ([.ref (ad 0), .int a1]) ++ List.replicate (2 - (lg_sl ([.ref (ad 0), .int a1])).length) Slot.unset).toArray = ls at hl ⊢
  have hl : lv_has ls 2 [(0, .ref (ad 0)), (1, .int a1)] := hl
  unfold wX0_touch at h
  refine lv_aload_n hx hb dX0_touch_0 rfl (lv_at hl 0 rfl) ?_
  refine va_get (D := (dC, dI)) (ci := 1) (v := .ref (ad 1)) (C := RX0) (T := TX0) (N := 11) hx hb hts in_X0_touch hown hK hP 0 rfl rfl 2 (by decide) (hts (.fieldLink RX0 25 "SignCutter" "columns" "[J") (by decide +kernel)) (fun _ h9 => h9) rfl dX0_touch_1 ?_
  refine lv_iload_n hx hb dX0_touch_4 rfl (lv_at hl 1 rfl) ?_
  refine lv_iconst (v := 1) hx hb dX0_touch_5 (by decide) ?_
  refine lv_isub hx hb dX0_touch_6 ?_
  refine z_lald hx hb hK hP 1 0 rfl rfl h dX0_touch_7 (fun j_1 h => ?_)
  refine lv_aload_n hx hb dX0_touch_8 rfl (lv_at hl 0 rfl) ?_
  refine va_get (D := (dC, dI)) (ci := 1) (v := .ref (ad 1)) (C := RX0) (T := TX0) (N := 11) hx hb hts in_X0_touch hown hK hP 0 rfl rfl 2 (by decide) (hts (.fieldLink RX0 25 "SignCutter" "columns" "[J") (by decide +kernel)) (fun _ h9 => h9) rfl dX0_touch_9 ?_
  refine lv_iload_n hx hb dX0_touch_12 rfl (lv_at hl 1 rfl) ?_
  refine z_lald hx hb hK hP 1 0 rfl rfl h dX0_touch_13 (fun j_2 h => ?_)
  refine lv_land hx hb dX0_touch_14 ?_
  refine z_cSi (As := [.long ((cols j_1) &&& (cols j_2))]) (rest := []) ⟨hx, hb, hml, hown, hts⟩ (mJ13_bitCount_95d88 l h) (va_cwS 1 hts gX0_touch_J13_bitCount_95d88 rfl rfl rfl (by decide +kernel) ⟨Nat.le_of_ble_eq_true rfl, Nat.le_of_ble_eq_true rfl⟩) rfl hl.1 rfl (Nat.le_of_ble_eq_true rfl) dX0_touch_15 ⟨Nat.le_of_ble_eq_true rfl, Nat.le_of_ble_eq_true rfl⟩ (fun r_3 h => ?_)
  exact W.iret (v := r_3) hx hb hr (fun t ht hW => ⟨_, rfl, h, ht⟩) (fun q hq => absurd hq List.not_mem_nil) dX0_touch_18
theorem in_X0_placesToCut : ∀ w ∈ wsX00, w ∈ wsX0_placesToCut := by decide +kernel
set_option maxHeartbeats 4000000 in
set_option maxRecDepth 100000 in
theorem tX0_placesToCut_40 {p : Program} {l : Launch} {e : Env} {s : State} {m : MethodId} {args : Array Value} {below : List Frame} {meth : Method} {c : Code} {dC : Nat → ClassId} {dI : Nat → Nat → Nat} {ad : Nat → Nat} {cA : Nat → ClassId} {nW : Nat} {nH : Nat} {ff : Int32} {fd : Int32} {cols : Nat → Int64} {rows : Nat → Int64} {ends : Nat → Int64} {ecost : Nat → Int32} {ecnt : Nat → Int32} {tails : Nat → Int32} {longer : Nat → Int32} {a1 : Int32} {a2 : Int32} {Post : Int64 → Prop} (hC : zC p s m args meth c cX0_placesToCut wsX0_placesToCut (some .long) 7 RX0) (hK : va_K (dC, dI) vwCl (tX0 cA) s) (hP : va_P (dC, dI) vwCl (wX0 ad cA nW nH ff fd cols rows ends ecost ecnt tails longer) s.heap) {r7 : Int64 → Int32 → Prop} (hr7 : ∀ (x3 : Int64) (x5 : Int32) (ls : Array Slot), lv_has ls 7 [(0, .ref (ad 0)), (1, .int a1), (2, .int a2), (3, .long x3), (5, .int x5)] → r7 x3 x5 → W p l e ({ frames := 2, cells := 0, slots := 0, locals := 42 } : Room) s m args below meth c s.heap [] 0 0 (MQ below (vp_Sl Post) args s 0 0 (fun _ => False)) (F0 m 7 ls [])) : ∀ (x3 : Int64) (x5 : Int32) (s0 : Int32) (ls : Array Slot), lv_has ls 7 [(0, .ref (ad 0)), (1, .int a1), (2, .int a2), (3, .long x3), (5, .int x5)] → jX0_placesToCut_40 nW cols a1 a2 Post r7 x3 x5 s0 → W p l e ({ frames := 2, cells := 0, slots := 0, locals := 42 } : Room) s m args below meth c s.heap [] 0 0 (MQ below (vp_Sl Post) args s 0 0 (fun _ => False)) (F0 m 40 ls [.int s0]) := by
  have hC0 := hC
  obtain ⟨hx, hb, hr, hml, hown, hts, hlocks⟩ := hC
  intro x3 x5 s0 ls hl h
  unfold jX0_placesToCut_40 at h
  refine lv_istore (lv' := [(6, .int s0), (0, .ref (ad 0)), (1, .int a1), (2, .int a2), (3, .long x3), (5, .int x5)]) hx hb dX0_placesToCut_40 hl (by decide) rfl (fun ls hl => ?_)
  refine lv_iload hx hb dX0_placesToCut_42 (lv_at hl 0 rfl) ?_
  refine lv_if_eq (tgt := 64) hx hb dX0_placesToCut_44 (by decide) (fun c => ?_) (fun c => ?_)
  · have h := h.1 c
    refine lv_iinc (v := (x5 + 1)) (lv' := [(5, .int (x5 + 1)), (6, .int s0), (0, .ref (ad 0)), (1, .int a1), (2, .int a2), (3, .long x3)]) hx hb dX0_placesToCut_64 hl (k := 5) rfl rfl (by decide) rfl (fun ls hl => ?_)
    refine lv_goto (tgt := 7) hx hb dX0_placesToCut_67 (by decide) ?_
    exact hr7 _ _ ls (lv_sub hl [2, 3, 4, 5, 0] rfl) h
  · have h := h.2 c
    refine lv_aload_n hx hb dX0_placesToCut_47 rfl (lv_at hl 1 rfl) ?_
    refine lv_iload hx hb dX0_placesToCut_48 (lv_at hl 5 rfl) ?_
    refine z_cVi (ci := 1) (As := [.int x5]) (rest := []) ⟨hx, hb, hml, hown, hts⟩ (mX0_touch l h) (cwV 1 hts gX0_placesToCut_X0_touch rfl rfl rfl (by decide +kernel) ⟨Nat.le_of_ble_eq_true rfl, Nat.le_of_ble_eq_true rfl⟩) hK hP 0 rfl rfl rfl rfl hl.1 rfl (Nat.le_of_ble_eq_true rfl) dX0_placesToCut_50 ⟨Nat.le_of_ble_eq_true rfl, Nat.le_of_ble_eq_true rfl⟩ (fun r_4 h => ?_)
    refine lv_iconst (v := 2) hx hb dX0_placesToCut_53 (by decide) ?_
    refine lv_icmp_gt (tgt := 64) hx hb dX0_placesToCut_54 (by decide) (fun c => ?_) (fun c => ?_)
    · have h := h.1 c
      refine lv_iinc (v := (x5 + 1)) (lv' := [(5, .int (x5 + 1)), (6, .int s0), (0, .ref (ad 0)), (1, .int a1), (2, .int a2), (3, .long x3)]) hx hb dX0_placesToCut_64 hl (k := 5) rfl rfl (by decide) rfl (fun ls hl => ?_)
      refine lv_goto (tgt := 7) hx hb dX0_placesToCut_67 (by decide) ?_
      exact hr7 _ _ ls (lv_sub hl [2, 3, 4, 5, 0] rfl) h
    · have h := h.2 c
      refine lv_lload_n hx hb dX0_placesToCut_57 rfl (lv_at hl 4 rfl) ?_
      refine lv_lconst (v := 1) hx hb dX0_placesToCut_58 (by decide) ?_
      refine lv_iload hx hb dX0_placesToCut_59 (lv_at hl 5 rfl) ?_
      refine lv_lshl (v := (zShl 1 x5)) hx hb dX0_placesToCut_61 rfl ?_
      refine lv_lor hx hb dX0_placesToCut_62 ?_
      refine lv_topl (fun x3_5 ex3_5 => ?_)
      have h := h x3_5 ex3_5
      refine lv_lstore_n (lv' := [(3, .long x3_5), (6, .int s0), (0, .ref (ad 0)), (1, .int a1), (2, .int a2), (5, .int x5)]) hx hb dX0_placesToCut_63 rfl hl (by decide) rfl (fun ls hl => ?_)
      refine lv_iinc (v := (x5 + 1)) (lv' := [(5, .int (x5 + 1)), (3, .long x3_5), (6, .int s0), (0, .ref (ad 0)), (1, .int a1), (2, .int a2)]) hx hb dX0_placesToCut_64 hl (k := 5) rfl rfl (by decide) rfl (fun ls hl => ?_)
      refine lv_goto (tgt := 7) hx hb dX0_placesToCut_67 (by decide) ?_
      exact hr7 _ _ ls (lv_sub hl [3, 4, 5, 1, 0] rfl) h
set_option maxHeartbeats 4000000 in
set_option maxRecDepth 100000 in
theorem tX0_placesToCut_7 {p : Program} {l : Launch} {e : Env} {s : State} {m : MethodId} {args : Array Value} {below : List Frame} {meth : Method} {c : Code} {dC : Nat → ClassId} {dI : Nat → Nat → Nat} {ad : Nat → Nat} {cA : Nat → ClassId} {nW : Nat} {nH : Nat} {ff : Int32} {fd : Int32} {cols : Nat → Int64} {rows : Nat → Int64} {ends : Nat → Int64} {ecost : Nat → Int32} {ecnt : Nat → Int32} {tails : Nat → Int32} {longer : Nat → Int32} {a1 : Int32} {a2 : Int32} {Post : Int64 → Prop} (hC : zC p s m args meth c cX0_placesToCut wsX0_placesToCut (some .long) 7 RX0) (hK : va_K (dC, dI) vwCl (tX0 cA) s) (hP : va_P (dC, dI) vwCl (wX0 ad cA nW nH ff fd cols rows ends ecost ecnt tails longer) s.heap) : ∀ (n : Nat), ∀ (x3 : Int64) (x5 : Int32) (ls : Array Slot), lv_has ls 7 [(0, .ref (ad 0)), (1, .int a1), (2, .int a2), (3, .long x3), (5, .int x5)] → lX0_placesToCut_7 nW cols a1 a2 Post n x3 x5 → W p l e ({ frames := 2, cells := 0, slots := 0, locals := 42 } : Room) s m args below meth c s.heap [] 0 0 (MQ below (vp_Sl Post) args s 0 0 (fun _ => False)) (F0 m 7 ls []) := by
  have hC0 := hC
  obtain ⟨hx, hb, hr, hml, hown, hts, hlocks⟩ := hC
  intro n
  induction n with
  | zero =>
    intro x3 x5 ls hl h
    exact h.elim
  | succ n hr7 =>
    intro x3 x5 ls hl h
    have h : bX0_placesToCut_7 nW cols a1 a2 Post (lX0_placesToCut_7 nW cols a1 a2 Post n) x3 x5 := h
    unfold bX0_placesToCut_7 at h
    refine lv_iload hx hb dX0_placesToCut_7 (lv_at hl 4 rfl) ?_
    refine lv_iload_n hx hb dX0_placesToCut_9 rfl (lv_at hl 2 rfl) ?_
    refine lv_icmp_ge (tgt := 70) hx hb dX0_placesToCut_10 (by decide) (fun c => ?_) (fun c => ?_)
    · have h := h.1 c
      refine lv_lload_n hx hb dX0_placesToCut_70 rfl (lv_at hl 3 rfl) ?_
      exact W.lret (v := x3) hx hb hr (fun t ht hW => ⟨_, rfl, h, ht⟩) (fun q hq => absurd hq List.not_mem_nil) dX0_placesToCut_71
    · have h := h.2 c
      refine lv_aload_n hx hb dX0_placesToCut_13 rfl (lv_at hl 0 rfl) ?_
      refine va_get (D := (dC, dI)) (ci := 1) (v := .ref (ad 1)) (C := RX0) (T := TX0) (N := 11) hx hb hts in_X0_placesToCut hown hK hP 0 rfl rfl 2 (by decide) (hts (.fieldLink RX0 25 "SignCutter" "columns" "[J") (by decide +kernel)) (fun _ h9 => h9) rfl dX0_placesToCut_14 ?_
      refine lv_iload hx hb dX0_placesToCut_17 (lv_at hl 4 rfl) ?_
      refine lv_iconst (v := 1) hx hb dX0_placesToCut_19 (by decide) ?_
      refine lv_isub hx hb dX0_placesToCut_20 ?_
      refine z_lald hx hb hK hP 1 0 rfl rfl h dX0_placesToCut_21 (fun j_2 h => ?_)
      refine lv_aload_n hx hb dX0_placesToCut_22 rfl (lv_at hl 0 rfl) ?_
      refine va_get (D := (dC, dI)) (ci := 1) (v := .ref (ad 1)) (C := RX0) (T := TX0) (N := 11) hx hb hts in_X0_placesToCut hown hK hP 0 rfl rfl 2 (by decide) (hts (.fieldLink RX0 25 "SignCutter" "columns" "[J") (by decide +kernel)) (fun _ h9 => h9) rfl dX0_placesToCut_23 ?_
      refine lv_iload hx hb dX0_placesToCut_26 (lv_at hl 4 rfl) ?_
      refine z_lald hx hb hK hP 1 0 rfl rfl h dX0_placesToCut_28 (fun j_3 h => ?_)
      refine lv_lor hx hb dX0_placesToCut_29 ?_
      refine lv_lconst (v := 0) hx hb dX0_placesToCut_30 (by decide) ?_
      refine W.lcmp hx hb dX0_placesToCut_31 ?_
      refine lv_if_eq (tgt := 39) hx hb dX0_placesToCut_32 (by decide) (fun c => ?_) (fun c => ?_)
      · have h := h.1 c
        refine lv_iconst (v := 0) hx hb dX0_placesToCut_39 (by decide) ?_
        exact tX0_placesToCut_40 hC0 hK hP hr7 _ _ _ ls (lv_sub hl [0, 1, 2, 3, 4] rfl) h
      · have h := h.2 c
        refine lv_iconst (v := 1) hx hb dX0_placesToCut_35 (by decide) ?_
        refine lv_goto (tgt := 40) hx hb dX0_placesToCut_36 (by decide) ?_
        exact tX0_placesToCut_40 hC0 hK hP hr7 _ _ _ ls (lv_sub hl [0, 1, 2, 3, 4] rfl) h
set_option maxHeartbeats 4000000 in
set_option maxRecDepth 100000 in
theorem mX0_placesToCut (l : Launch) {dC : Nat → ClassId} {dI : Nat → Nat → Nat} {ad : Nat → Nat} {cA : Nat → ClassId} {nW : Nat} {nH : Nat} {ff : Int32} {fd : Int32} {cols : Nat → Int64} {rows : Nat → Int64} {ends : Nat → Int64} {ecost : Nat → Int32} {ecnt : Nat → Int32} {tails : Nat → Int32} {longer : Nat → Int32} {a1 : Int32} {a2 : Int32} {Post : Int64 → Prop} (h : wX0_placesToCut nW cols a1 a2 Post) : Met l yX0_placesToCut wsX0_placesToCut ({ frames := 2, cells := 0, slots := 0, locals := 42 } : Room) (zPc (dC, dI) vwCl (tX0 cA) (wX0 ad cA nW nH ff fd cols rows ends ecost ecnt tails longer) [.ref (ad 0), .int a1, .int a2]) (vp_Sl Post) 0 0 (fun _ => False) := by
  refine Met.ofW (cc := cX0_placesToCut) (maxL := 7) (ret := (some .long)) (by decide) rfl ?_
  intro p e s m args below meth c s₁ B hml hv
  obtain ⟨rfl, hP, hK⟩ := hv
  have hC : zC p s m [.ref (ad 0), .int a1, .int a2].toArray meth c cX0_placesToCut wsX0_placesToCut (some .long) 7 RX0 := ⟨B.exec, B.bytes, B.returns, hml, findClass_of_methodNamed B.named, atoms_spec (ws := wsX0_placesToCut) B.pre, B.notSynchronized⟩
  have hC0 := hC
  obtain ⟨hx, hb, hr, hml, hown, hts, hlocks⟩ := hC
  have hl := lv_entry ([.ref (ad 0), .int a1, .int a2]) (n := 7) (Nat.le_of_ble_eq_true rfl)
  rw [lg_entry_eq]
  generalize (lg_sl ([.ref (ad 0), .int a1, .int a2]) ++ List.replicate (7 - (lg_sl ([.ref (ad 0), .int a1, .int a2])).length) Slot.unset).toArray = ls at hl ⊢
  have hl : lv_has ls 7 [(0, .ref (ad 0)), (1, .int a1), (2, .int a2)] := hl
  unfold wX0_placesToCut at h
  refine lv_lconst (v := 0) hx hb dX0_placesToCut_0 (by decide) ?_
  refine lv_lstore_n (lv' := [(3, .long 0), (0, .ref (ad 0)), (1, .int a1), (2, .int a2)]) hx hb dX0_placesToCut_1 rfl hl (by decide) rfl (fun ls hl => ?_)
  refine lv_iload_n hx hb dX0_placesToCut_2 rfl (lv_at hl 2 rfl) ?_
  refine lv_iconst (v := 1) hx hb dX0_placesToCut_3 (by decide) ?_
  refine lv_iadd hx hb dX0_placesToCut_4 ?_
  refine lv_topi (fun x5_1 ex5_1 => ?_)
  have h := h x5_1 ex5_1
  refine lv_istore (lv' := [(5, .int x5_1), (3, .long 0), (0, .ref (ad 0)), (1, .int a1), (2, .int a2)]) hx hb dX0_placesToCut_5 hl (by decide) rfl (fun ls hl => ?_)
  obtain ⟨n_6, h⟩ := h
  exact tX0_placesToCut_7 hC0 hK hP n_6 _ _ ls (lv_sub hl [2, 3, 4, 1, 0] rfl) h
theorem in_X0_isFound : ∀ w ∈ wsX00, w ∈ wsX0_isFound := by decide +kernel
set_option maxHeartbeats 4000000 in
set_option maxRecDepth 100000 in
theorem mX0_isFound (l : Launch) {dC : Nat → ClassId} {dI : Nat → Nat → Nat} {ad : Nat → Nat} {cA : Nat → ClassId} {nW : Nat} {nH : Nat} {ff : Int32} {fd : Int32} {cols : Nat → Int64} {rows : Nat → Int64} {ends : Nat → Int64} {ecost : Nat → Int32} {ecnt : Nat → Int32} {tails : Nat → Int32} {longer : Nat → Int32} {a1 : Int32} {Post : Int32 → Prop} (h : wX0_isFound fd a1 Post) : Met l yX0_isFound wsX0_isFound ({ frames := 0, cells := 0, slots := 0, locals := 0 } : Room) (zPc (dC, dI) vwCl (tX0 cA) (wX0 ad cA nW nH ff fd cols rows ends ecost ecnt tails longer) [.ref (ad 0), .int a1]) (vp_Si Post) 0 0 (fun _ => False) := by
  refine Met.ofW (cc := cX0_isFound) (maxL := 2) (ret := (some .boolean)) (by decide) rfl ?_
  intro p e s m args below meth c s₁ B hml hv
  obtain ⟨rfl, hP, hK⟩ := hv
  have hC : zC p s m [.ref (ad 0), .int a1].toArray meth c cX0_isFound wsX0_isFound (some .boolean) 2 RX0 := ⟨B.exec, B.bytes, B.returns, hml, findClass_of_methodNamed B.named, atoms_spec (ws := wsX0_isFound) B.pre, B.notSynchronized⟩
  have hC0 := hC
  obtain ⟨hx, hb, hr, hml, hown, hts, hlocks⟩ := hC
  have hl := lv_entry ([.ref (ad 0), .int a1]) (n := 2) (Nat.le_of_ble_eq_true rfl)
  rw [lg_entry_eq]
  generalize (lg_sl ([.ref (ad 0), .int a1]) ++ List.replicate (2 - (lg_sl ([.ref (ad 0), .int a1])).length) Slot.unset).toArray = ls at hl ⊢
  have hl : lv_has ls 2 [(0, .ref (ad 0)), (1, .int a1)] := hl
  unfold wX0_isFound at h
  refine lv_iload_n hx hb dX0_isFound_0 rfl (lv_at hl 1 rfl) ?_
  refine lv_if_lt (tgt := 16) hx hb dX0_isFound_1 (by decide) (fun c => ?_) (fun c => ?_)
  · have h := h.1 c
    refine lv_iconst (v := 0) hx hb dX0_isFound_16 (by decide) ?_
    exact W.zret (v := 0) hx hb hr rfl (fun t ht hW => ⟨_, rfl, h, ht⟩) (fun q hq => absurd hq List.not_mem_nil) dX0_isFound_17
  · have h := h.2 c
    refine lv_iload_n hx hb dX0_isFound_4 rfl (lv_at hl 1 rfl) ?_
    refine lv_aload_n hx hb dX0_isFound_5 rfl (lv_at hl 0 rfl) ?_
    refine va_get (D := (dC, dI)) (ci := 1) (v := .int fd) (C := RX0) (T := TX0) (N := 11) hx hb hts in_X0_isFound hown hK hP 0 rfl rfl 8 (by decide) (hts (.fieldLink RX0 61 "SignCutter" "found" "I") (by decide +kernel)) (fun _ h9 => h9) rfl dX0_isFound_6 ?_
    refine lv_icmp_ge (tgt := 16) hx hb dX0_isFound_9 (by decide) (fun c => ?_) (fun c => ?_)
    · have h := h.1 c
      refine lv_iconst (v := 0) hx hb dX0_isFound_16 (by decide) ?_
      exact W.zret (v := 0) hx hb hr rfl (fun t ht hW => ⟨_, rfl, h, ht⟩) (fun q hq => absurd hq List.not_mem_nil) dX0_isFound_17
    · have h := h.2 c
      refine lv_iconst (v := 1) hx hb dX0_isFound_12 (by decide) ?_
      refine lv_goto (tgt := 17) hx hb dX0_isFound_13 (by decide) ?_
      exact W.zret (v := 1) hx hb hr rfl (fun t ht hW => ⟨_, rfl, h, ht⟩) (fun q hq => absurd hq List.not_mem_nil) dX0_isFound_17
theorem in_X0_way : ∀ w ∈ wsX00, w ∈ wsX0_way := by decide +kernel
set_option maxHeartbeats 4000000 in
set_option maxRecDepth 100000 in
theorem tX0_way_35 {p : Program} {l : Launch} {e : Env} {s : State} {m : MethodId} {args : Array Value} {below : List Frame} {meth : Method} {c : Code} {dC : Nat → ClassId} {dI : Nat → Nat → Nat} {ad : Nat → Nat} {cA : Nat → ClassId} {nW : Nat} {nH : Nat} {ff : Int32} {fd : Int32} {cols : Nat → Int64} {rows : Nat → Int64} {ends : Nat → Int64} {ecost : Nat → Int32} {ecnt : Nat → Int32} {tails : Nat → Int32} {longer : Nat → Int32} {a1 : Int32} {a2 : Int32} {Post : Int32 → Prop} (hC : zC p s m args meth c cX0_way wsX0_way (some .int) 7 RX0) (hK : va_K (dC, dI) vwCl (tX0 cA) s) (hP : va_P (dC, dI) vwCl (wX0 ad cA nW nH ff fd cols rows ends ecost ecnt tails longer) s.heap) : ∀ (n : Nat), ∀ (x3 : Int64) (x5 : Int32) (x6 : Int32) (ls : Array Slot), lv_has ls 7 [(0, .ref (ad 0)), (1, .int a1), (2, .int a2), (3, .long x3), (5, .int x5), (6, .int x6)] → lX0_way_35 nW ff fd ends a1 a2 Post n x3 x5 x6 → W p l e ({ frames := 1, cells := 0, slots := 0, locals := 22 } : Room) s m args below meth c s.heap [] 0 0 (MQ below (vp_Si Post) args s 0 0 (fun _ => False)) (F0 m 35 ls []) := by
  have hC0 := hC
  obtain ⟨hx, hb, hr, hml, hown, hts, hlocks⟩ := hC
  intro n
  induction n with
  | zero =>
    intro x3 x5 x6 ls hl h
    exact h.elim
  | succ n hr35 =>
    intro x3 x5 x6 ls hl h
    have h : bX0_way_35 nW ff fd ends a1 a2 Post (lX0_way_35 nW ff fd ends a1 a2 Post n) x3 x5 x6 := h
    unfold bX0_way_35 at h
    refine lv_iload hx hb dX0_way_35 (lv_at hl 5 rfl) ?_
    refine lv_aload_n hx hb dX0_way_37 rfl (lv_at hl 0 rfl) ?_
    refine va_get (D := (dC, dI)) (ci := 1) (v := .int (nI nW)) (C := RX0) (T := TX0) (N := 11) hx hb hts in_X0_way hown hK hP 0 rfl rfl 0 (by decide) (hts (.fieldLink RX0 18 "SignCutter" "width" "I") (by decide +kernel)) (fun _ h9 => h9) rfl dX0_way_38 ?_
    refine lv_icmp_gt (tgt := 71) hx hb dX0_way_41 (by decide) (fun c => ?_) (fun c => ?_)
    · have h := h.1 c
      refine lv_iconst (v := (-1)) hx hb dX0_way_71 (by decide) ?_
      exact W.iret (v := (-1)) hx hb hr (fun t ht hW => ⟨_, rfl, h, ht⟩) (fun q hq => absurd hq List.not_mem_nil) dX0_way_72
    · have h := h.2 c
      refine lv_lload_n hx hb dX0_way_44 rfl (lv_at hl 3 rfl) ?_
      refine lv_iload hx hb dX0_way_45 (lv_at hl 5 rfl) ?_
      refine z_cSi (As := [.long x3, .int x6]) (rest := []) ⟨hx, hb, hml, hown, hts⟩ (mX0_has l h) (va_cwS 2 hts gX0_way_X0_has rfl rfl rfl (by decide +kernel) ⟨Nat.le_of_ble_eq_true rfl, Nat.le_of_ble_eq_true rfl⟩) rfl hl.1 rfl (Nat.le_of_ble_eq_true rfl) dX0_way_47 ⟨Nat.le_of_ble_eq_true rfl, Nat.le_of_ble_eq_true rfl⟩ (fun r_5 h => ?_)
      refine lv_if_eq (tgt := 65) hx hb dX0_way_50 (by decide) (fun c => ?_) (fun c => ?_)
      · have h := h.1 c
        refine lv_iinc (v := (x6 + 1)) (lv' := [(6, .int (x6 + 1)), (0, .ref (ad 0)), (1, .int a1), (2, .int a2), (3, .long x3), (5, .int x5)]) hx hb dX0_way_65 hl (k := 5) rfl rfl (by decide) rfl (fun ls hl => ?_)
        refine lv_goto (tgt := 35) hx hb dX0_way_68 (by decide) ?_
        exact hr35 _ _ _ ls (lv_sub hl [1, 2, 3, 4, 5, 0] rfl) h
      · have h := h.2 c
        refine lv_iload hx hb dX0_way_53 (lv_at hl 4 rfl) ?_
        refine lv_iload_n hx hb dX0_way_55 rfl (lv_at hl 2 rfl) ?_
        refine lv_icmp_ne (tgt := 62) hx hb dX0_way_56 (by decide) (fun c => ?_) (fun c => ?_)
        · have h := h.2 c
          refine lv_iinc (v := (x5 + 1)) (lv' := [(5, .int (x5 + 1)), (0, .ref (ad 0)), (1, .int a1), (2, .int a2), (3, .long x3), (6, .int x6)]) hx hb dX0_way_62 hl (k := 4) rfl rfl (by decide) rfl (fun ls hl => ?_)
          refine lv_iinc (v := (x6 + 1)) (lv' := [(6, .int (x6 + 1)), (5, .int (x5 + 1)), (0, .ref (ad 0)), (1, .int a1), (2, .int a2), (3, .long x3)]) hx hb dX0_way_65 hl (k := 5) rfl rfl (by decide) rfl (fun ls hl => ?_)
          refine lv_goto (tgt := 35) hx hb dX0_way_68 (by decide) ?_
          exact hr35 _ _ _ ls (lv_sub hl [2, 3, 4, 5, 1, 0] rfl) h
        · have h := h.1 c
          refine lv_iload hx hb dX0_way_59 (lv_at hl 5 rfl) ?_
          exact W.iret (v := x6) hx hb hr (fun t ht hW => ⟨_, rfl, h, ht⟩) (fun q hq => absurd hq List.not_mem_nil) dX0_way_61
set_option maxHeartbeats 4000000 in
set_option maxRecDepth 100000 in
theorem mX0_way (l : Launch) {dC : Nat → ClassId} {dI : Nat → Nat → Nat} {ad : Nat → Nat} {cA : Nat → ClassId} {nW : Nat} {nH : Nat} {ff : Int32} {fd : Int32} {cols : Nat → Int64} {rows : Nat → Int64} {ends : Nat → Int64} {ecost : Nat → Int32} {ecnt : Nat → Int32} {tails : Nat → Int32} {longer : Nat → Int32} {a1 : Int32} {a2 : Int32} {Post : Int32 → Prop} (h : wX0_way nW ff fd ends a1 a2 Post) : Met l yX0_way wsX0_way ({ frames := 1, cells := 0, slots := 0, locals := 22 } : Room) (zPc (dC, dI) vwCl (tX0 cA) (wX0 ad cA nW nH ff fd cols rows ends ecost ecnt tails longer) [.ref (ad 0), .int a1, .int a2]) (vp_Si Post) 0 0 (fun _ => False) := by
  refine Met.ofW (cc := cX0_way) (maxL := 7) (ret := (some .int)) (by decide) rfl ?_
  intro p e s m args below meth c s₁ B hml hv
  obtain ⟨rfl, hP, hK⟩ := hv
  have hC : zC p s m [.ref (ad 0), .int a1, .int a2].toArray meth c cX0_way wsX0_way (some .int) 7 RX0 := ⟨B.exec, B.bytes, B.returns, hml, findClass_of_methodNamed B.named, atoms_spec (ws := wsX0_way) B.pre, B.notSynchronized⟩
  have hC0 := hC
  obtain ⟨hx, hb, hr, hml, hown, hts, hlocks⟩ := hC
  have hl := lv_entry ([.ref (ad 0), .int a1, .int a2]) (n := 7) (Nat.le_of_ble_eq_true rfl)
  rw [lg_entry_eq]
  generalize (lg_sl ([.ref (ad 0), .int a1, .int a2]) ++ List.replicate (7 - (lg_sl ([.ref (ad 0), .int a1, .int a2])).length) Slot.unset).toArray = ls at hl ⊢
  have hl : lv_has ls 7 [(0, .ref (ad 0)), (1, .int a1), (2, .int a2)] := hl
  unfold wX0_way at h
  refine lv_aload_n hx hb dX0_way_0 rfl (lv_at hl 0 rfl) ?_
  refine lv_iload_n hx hb dX0_way_1 rfl (lv_at hl 1 rfl) ?_
  refine z_cVi (ci := 1) (As := [.int a1]) (rest := []) ⟨hx, hb, hml, hown, hts⟩ (mX0_isFound l h) (cwV 1 hts gX0_way_X0_isFound rfl rfl rfl (by decide +kernel) ⟨Nat.le_of_ble_eq_true rfl, Nat.le_of_ble_eq_true rfl⟩) hK hP 0 rfl rfl rfl rfl hl.1 rfl (Nat.le_of_ble_eq_true rfl) dX0_way_2 ⟨Nat.le_of_ble_eq_true rfl, Nat.le_of_ble_eq_true rfl⟩ (fun r_1 h => ?_)
  refine lv_if_eq (tgt := 12) hx hb dX0_way_5 (by decide) (fun c => ?_) (fun c => ?_)
  · have h := h.1 c
    refine lv_iconst (v := (-1)) hx hb dX0_way_12 (by decide) ?_
    exact W.iret (v := (-1)) hx hb hr (fun t ht hW => ⟨_, rfl, h, ht⟩) (fun q hq => absurd hq List.not_mem_nil) dX0_way_13
  · have h := h.2 c
    refine lv_iload_n hx hb dX0_way_8 rfl (lv_at hl 2 rfl) ?_
    refine lv_if_ge (tgt := 14) hx hb dX0_way_9 (by decide) (fun c => ?_) (fun c => ?_)
    · have h := h.1 c
      refine lv_aload_n hx hb dX0_way_14 rfl (lv_at hl 0 rfl) ?_
      refine va_get (D := (dC, dI)) (ci := 1) (v := .ref (ad 3)) (C := RX0) (T := TX0) (N := 11) hx hb hts in_X0_way hown hK hP 0 rfl rfl 4 (by decide) (hts (.fieldLink RX0 32 "SignCutter" "ends" "[J") (by decide +kernel)) (fun _ h9 => h9) rfl dX0_way_15 ?_
      refine lv_aload_n hx hb dX0_way_18 rfl (lv_at hl 0 rfl) ?_
      refine va_get (D := (dC, dI)) (ci := 1) (v := .int ff) (C := RX0) (T := TX0) (N := 11) hx hb hts in_X0_way hown hK hP 0 rfl rfl 7 (by decide) (hts (.fieldLink RX0 75 "SignCutter" "foundFrom" "I") (by decide +kernel)) (fun _ h9 => h9) rfl dX0_way_19 ?_
      refine z_cSi (As := [.int ff]) (rest := [.ref (ad 3)]) ⟨hx, hb, hml, hown, hts⟩ (mX0_shelf l h) (va_cwS 1 hts gX0_way_X0_shelf rfl rfl rfl (by decide +kernel) ⟨Nat.le_of_ble_eq_true rfl, Nat.le_of_ble_eq_true rfl⟩) rfl hl.1 rfl (Nat.le_of_ble_eq_true rfl) dX0_way_22 ⟨Nat.le_of_ble_eq_true rfl, Nat.le_of_ble_eq_true rfl⟩ (fun r_2 h => ?_)
      refine lv_iload_n hx hb dX0_way_25 rfl (lv_at hl 1 rfl) ?_
      refine lv_iadd hx hb dX0_way_26 ?_
      refine z_lald hx hb hK hP 3 2 rfl rfl h dX0_way_27 (fun j_3 h => ?_)
      refine lv_topl (fun x3_4 ex3_4 => ?_)
      have h := h x3_4 ex3_4
      refine lv_lstore_n (lv' := [(3, .long x3_4), (0, .ref (ad 0)), (1, .int a1), (2, .int a2)]) hx hb dX0_way_28 rfl hl (by decide) rfl (fun ls hl => ?_)
      refine lv_iconst (v := 0) hx hb dX0_way_29 (by decide) ?_
      refine lv_istore (lv' := [(5, .int 0), (3, .long x3_4), (0, .ref (ad 0)), (1, .int a1), (2, .int a2)]) hx hb dX0_way_30 hl (by decide) rfl (fun ls hl => ?_)
      refine lv_iconst (v := 0) hx hb dX0_way_32 (by decide) ?_
      refine lv_istore (lv' := [(6, .int 0), (5, .int 0), (3, .long x3_4), (0, .ref (ad 0)), (1, .int a1), (2, .int a2)]) hx hb dX0_way_33 hl (by decide) rfl (fun ls hl => ?_)
      obtain ⟨n_6, h⟩ := h
      exact tX0_way_35 hC0 hK hP n_6 _ _ _ ls (lv_sub hl [3, 4, 5, 2, 1, 0] rfl) h
    · have h := h.2 c
      refine lv_iconst (v := (-1)) hx hb dX0_way_12 (by decide) ?_
      exact W.iret (v := (-1)) hx hb hr (fun t ht hW => ⟨_, rfl, h, ht⟩) (fun q hq => absurd hq List.not_mem_nil) dX0_way_13
theorem in_X0_cost : ∀ w ∈ wsX00, w ∈ wsX0_cost := by decide +kernel
set_option maxHeartbeats 4000000 in
set_option maxRecDepth 100000 in
theorem mX0_cost (l : Launch) {dC : Nat → ClassId} {dI : Nat → Nat → Nat} {ad : Nat → Nat} {cA : Nat → ClassId} {nW : Nat} {nH : Nat} {ff : Int32} {fd : Int32} {cols : Nat → Int64} {rows : Nat → Int64} {ends : Nat → Int64} {ecost : Nat → Int32} {ecnt : Nat → Int32} {tails : Nat → Int32} {longer : Nat → Int32} {a1 : Int32} {Post : Int64 → Prop} (h : wX0_cost nW ff fd ecost a1 Post) : Met l yX0_cost wsX0_cost ({ frames := 1, cells := 0, slots := 0, locals := 21 } : Room) (zPc (dC, dI) vwCl (tX0 cA) (wX0 ad cA nW nH ff fd cols rows ends ecost ecnt tails longer) [.ref (ad 0), .int a1]) (vp_Sl Post) 0 0 (fun _ => False) := by
  refine Met.ofW (cc := cX0_cost) (maxL := 2) (ret := (some .long)) (by decide) rfl ?_
  intro p e s m args below meth c s₁ B hml hv
  obtain ⟨rfl, hP, hK⟩ := hv
  have hC : zC p s m [.ref (ad 0), .int a1].toArray meth c cX0_cost wsX0_cost (some .long) 2 RX0 := ⟨B.exec, B.bytes, B.returns, hml, findClass_of_methodNamed B.named, atoms_spec (ws := wsX0_cost) B.pre, B.notSynchronized⟩
  have hC0 := hC
  obtain ⟨hx, hb, hr, hml, hown, hts, hlocks⟩ := hC
  have hl := lv_entry ([.ref (ad 0), .int a1]) (n := 2) (Nat.le_of_ble_eq_true rfl)
  rw [lg_entry_eq]
  generalize (lg_sl ([.ref (ad 0), .int a1]) ++ List.replicate (2 - (lg_sl ([.ref (ad 0), .int a1])).length) Slot.unset).toArray = ls at hl ⊢
  have hl : lv_has ls 2 [(0, .ref (ad 0)), (1, .int a1)] := hl
  unfold wX0_cost at h
  refine lv_aload_n hx hb dX0_cost_0 rfl (lv_at hl 0 rfl) ?_
  refine lv_iload_n hx hb dX0_cost_1 rfl (lv_at hl 1 rfl) ?_
  refine z_cVi (ci := 1) (As := [.int a1]) (rest := []) ⟨hx, hb, hml, hown, hts⟩ (mX0_isFound l h) (cwV 1 hts gX0_cost_X0_isFound rfl rfl rfl (by decide +kernel) ⟨Nat.le_of_ble_eq_true rfl, Nat.le_of_ble_eq_true rfl⟩) hK hP 0 rfl rfl rfl rfl hl.1 rfl (Nat.le_of_ble_eq_true rfl) dX0_cost_2 ⟨Nat.le_of_ble_eq_true rfl, Nat.le_of_ble_eq_true rfl⟩ (fun r_1 h => ?_)
  refine lv_if_eq (tgt := 26) hx hb dX0_cost_5 (by decide) (fun c => ?_) (fun c => ?_)
  · have h := h.1 c
    refine lv_ldc2 hx hb hown (hts (.constantLong RX0 55 (-1)) (by decide +kernel)) dX0_cost_26 ?_
    exact W.lret (v := (-1)) hx hb hr (fun t ht hW => ⟨_, rfl, h, ht⟩) (fun q hq => absurd hq List.not_mem_nil) dX0_cost_29
  · have h := h.2 c
    refine lv_aload_n hx hb dX0_cost_8 rfl (lv_at hl 0 rfl) ?_
    refine va_get (D := (dC, dI)) (ci := 1) (v := .ref (ad 4)) (C := RX0) (T := TX0) (N := 11) hx hb hts in_X0_cost hown hK hP 0 rfl rfl 5 (by decide) (hts (.fieldLink RX0 35 "SignCutter" "endCosts" "[I") (by decide +kernel)) (fun _ h9 => h9) rfl dX0_cost_9 ?_
    refine lv_aload_n hx hb dX0_cost_12 rfl (lv_at hl 0 rfl) ?_
    refine va_get (D := (dC, dI)) (ci := 1) (v := .int ff) (C := RX0) (T := TX0) (N := 11) hx hb hts in_X0_cost hown hK hP 0 rfl rfl 7 (by decide) (hts (.fieldLink RX0 75 "SignCutter" "foundFrom" "I") (by decide +kernel)) (fun _ h9 => h9) rfl dX0_cost_13 ?_
    refine z_cSi (As := [.int ff]) (rest := [.ref (ad 4)]) ⟨hx, hb, hml, hown, hts⟩ (mX0_shelf l h) (va_cwS 1 hts gX0_cost_X0_shelf rfl rfl rfl (by decide +kernel) ⟨Nat.le_of_ble_eq_true rfl, Nat.le_of_ble_eq_true rfl⟩) rfl hl.1 rfl (Nat.le_of_ble_eq_true rfl) dX0_cost_16 ⟨Nat.le_of_ble_eq_true rfl, Nat.le_of_ble_eq_true rfl⟩ (fun r_2 h => ?_)
    refine lv_iload_n hx hb dX0_cost_19 rfl (lv_at hl 1 rfl) ?_
    refine lv_iadd hx hb dX0_cost_20 ?_
    refine z_iald hx hb hK hP 4 3 rfl rfl h dX0_cost_21 (fun j_3 h => ?_)
    refine lv_i2l (v := (Int32.toInt64 (ecost j_3))) hx hb dX0_cost_22 rfl ?_
    refine lv_goto (tgt := 29) hx hb dX0_cost_23 (by decide) ?_
    exact W.lret (v := (Int32.toInt64 (ecost j_3))) hx hb hr (fun t ht hW => ⟨_, rfl, h, ht⟩) (fun q hq => absurd hq List.not_mem_nil) dX0_cost_29
theorem in_X0_signs : ∀ w ∈ wsX00, w ∈ wsX0_signs := by decide +kernel
set_option maxHeartbeats 4000000 in
set_option maxRecDepth 100000 in
theorem mX0_signs (l : Launch) {dC : Nat → ClassId} {dI : Nat → Nat → Nat} {ad : Nat → Nat} {cA : Nat → ClassId} {nW : Nat} {nH : Nat} {ff : Int32} {fd : Int32} {cols : Nat → Int64} {rows : Nat → Int64} {ends : Nat → Int64} {ecost : Nat → Int32} {ecnt : Nat → Int32} {tails : Nat → Int32} {longer : Nat → Int32} {a1 : Int32} {Post : Int32 → Prop} (h : wX0_signs nW ff fd ends a1 Post) : Met l yX0_signs wsX0_signs ({ frames := 1, cells := 0, slots := 0, locals := 21 } : Room) (zPc (dC, dI) vwCl (tX0 cA) (wX0 ad cA nW nH ff fd cols rows ends ecost ecnt tails longer) [.ref (ad 0), .int a1]) (vp_Si Post) 0 0 (fun _ => False) := by
  refine Met.ofW (cc := cX0_signs) (maxL := 2) (ret := (some .int)) (by decide) rfl ?_
  intro p e s m args below meth c s₁ B hml hv
  obtain ⟨rfl, hP, hK⟩ := hv
  have hC : zC p s m [.ref (ad 0), .int a1].toArray meth c cX0_signs wsX0_signs (some .int) 2 RX0 := ⟨B.exec, B.bytes, B.returns, hml, findClass_of_methodNamed B.named, atoms_spec (ws := wsX0_signs) B.pre, B.notSynchronized⟩
  have hC0 := hC
  obtain ⟨hx, hb, hr, hml, hown, hts, hlocks⟩ := hC
  have hl := lv_entry ([.ref (ad 0), .int a1]) (n := 2) (Nat.le_of_ble_eq_true rfl)
  rw [lg_entry_eq]
  generalize (lg_sl ([.ref (ad 0), .int a1]) ++ List.replicate (2 - (lg_sl ([.ref (ad 0), .int a1])).length) Slot.unset).toArray = ls at hl ⊢
  have hl : lv_has ls 2 [(0, .ref (ad 0)), (1, .int a1)] := hl
  unfold wX0_signs at h
  refine lv_aload_n hx hb dX0_signs_0 rfl (lv_at hl 0 rfl) ?_
  refine lv_iload_n hx hb dX0_signs_1 rfl (lv_at hl 1 rfl) ?_
  refine z_cVi (ci := 1) (As := [.int a1]) (rest := []) ⟨hx, hb, hml, hown, hts⟩ (mX0_isFound l h) (cwV 1 hts gX0_signs_X0_isFound rfl rfl rfl (by decide +kernel) ⟨Nat.le_of_ble_eq_true rfl, Nat.le_of_ble_eq_true rfl⟩) hK hP 0 rfl rfl rfl rfl hl.1 rfl (Nat.le_of_ble_eq_true rfl) dX0_signs_2 ⟨Nat.le_of_ble_eq_true rfl, Nat.le_of_ble_eq_true rfl⟩ (fun r_1 h => ?_)
  refine lv_if_eq (tgt := 30) hx hb dX0_signs_5 (by decide) (fun c => ?_) (fun c => ?_)
  · have h := h.1 c
    refine lv_iconst (v := (-1)) hx hb dX0_signs_30 (by decide) ?_
    exact W.iret (v := (-1)) hx hb hr (fun t ht hW => ⟨_, rfl, h, ht⟩) (fun q hq => absurd hq List.not_mem_nil) dX0_signs_31
  · have h := h.2 c
    refine lv_aload_n hx hb dX0_signs_8 rfl (lv_at hl 0 rfl) ?_
    refine va_get (D := (dC, dI)) (ci := 1) (v := .ref (ad 3)) (C := RX0) (T := TX0) (N := 11) hx hb hts in_X0_signs hown hK hP 0 rfl rfl 4 (by decide) (hts (.fieldLink RX0 32 "SignCutter" "ends" "[J") (by decide +kernel)) (fun _ h9 => h9) rfl dX0_signs_9 ?_
    refine lv_aload_n hx hb dX0_signs_12 rfl (lv_at hl 0 rfl) ?_
    refine va_get (D := (dC, dI)) (ci := 1) (v := .int ff) (C := RX0) (T := TX0) (N := 11) hx hb hts in_X0_signs hown hK hP 0 rfl rfl 7 (by decide) (hts (.fieldLink RX0 75 "SignCutter" "foundFrom" "I") (by decide +kernel)) (fun _ h9 => h9) rfl dX0_signs_13 ?_
    refine z_cSi (As := [.int ff]) (rest := [.ref (ad 3)]) ⟨hx, hb, hml, hown, hts⟩ (mX0_shelf l h) (va_cwS 1 hts gX0_signs_X0_shelf rfl rfl rfl (by decide +kernel) ⟨Nat.le_of_ble_eq_true rfl, Nat.le_of_ble_eq_true rfl⟩) rfl hl.1 rfl (Nat.le_of_ble_eq_true rfl) dX0_signs_16 ⟨Nat.le_of_ble_eq_true rfl, Nat.le_of_ble_eq_true rfl⟩ (fun r_2 h => ?_)
    refine lv_iload_n hx hb dX0_signs_19 rfl (lv_at hl 1 rfl) ?_
    refine lv_iadd hx hb dX0_signs_20 ?_
    refine z_lald hx hb hK hP 3 2 rfl rfl h dX0_signs_21 (fun j_3 h => ?_)
    refine z_cSi (As := [.long (ends j_3)]) (rest := []) ⟨hx, hb, hml, hown, hts⟩ (mJ13_bitCount_95d88 l h) (va_cwS 1 hts gX0_signs_J13_bitCount_95d88 rfl rfl rfl (by decide +kernel) ⟨Nat.le_of_ble_eq_true rfl, Nat.le_of_ble_eq_true rfl⟩) rfl hl.1 rfl (Nat.le_of_ble_eq_true rfl) dX0_signs_22 ⟨Nat.le_of_ble_eq_true rfl, Nat.le_of_ble_eq_true rfl⟩ (fun r_4 h => ?_)
    refine lv_iconst (v := 1) hx hb dX0_signs_25 (by decide) ?_
    refine lv_isub hx hb dX0_signs_26 ?_
    refine lv_goto (tgt := 31) hx hb dX0_signs_27 (by decide) ?_
    exact W.iret (v := (r_4 - 1)) hx hb hr (fun t ht hW => ⟨_, rfl, h, ht⟩) (fun q hq => absurd hq List.not_mem_nil) dX0_signs_31
